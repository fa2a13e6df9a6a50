theorem and_mod {b c h : Nat} (hc : c < 2 ^ b) : h % 2 ^ b &&& c = h &&& c := by
  apply Nat.eq_of_testBit_eq
  intro i
  rw [Nat.testBit_and, Nat.testBit_and, Nat.testBit_mod_two_pow]
  by_cases h1 : i < b
  · simp [h1]
  · have : c.testBit i = false := Nat.testBit_lt_two_pow (Nat.lt_of_lt_of_le hc (Nat.pow_le_pow_right (by decide) (by omega)))
    simp [this]
theorem mt_mod {b : Nat} {r : RT} (hr : RW b r) (port h : Nat) : mt r port (h % 2 ^ b) = mt r port h := by
  unfold mt
  rw [and_mod hr.2.2.1]
theorem hd_mod {b : Nat} {rs : List RT} (hW : ∀ r ∈ rs, RW b r) (port h : Nat) : hd rs port (h % 2 ^ b) = hd rs port h := by
  unfold hd
  induction rs with
  | nil => rfl
  | cons r rest ih =>
    rw [List.findIdx?_cons, List.findIdx?_cons, mt_mod (hW r List.mem_cons_self), ih (fun q hq => hW q (List.mem_cons_of_mem _ hq))]
def Hid (b : Nat) (rs : List RT) (i : Nat) : Prop := ∃ r, rs[i]? = some r ∧ r 6 = 1 ∧ ∀ port, port < 4 → ∀ h, h < 2 ^ b → hd rs port h ≠ some i
theorem jsl_0 {k : Nat} (hk : k < 31) : jsl 0 (nI k) = nI 0 := by
  unfold jsl
  have h := pk_shlN (n := 0) (nI k &&& 31) k (s_l k (by omega)) (by rw [Nat.zero_mul]; decide)
  rw [Nat.zero_mul] at h
  exact h
theorem cl_bit : ∀ n, n < 64 → ∀ k, k < 6 → nI n &&& (nI (2 ^ k) ^^^ (-1)) = nI (n &&& (63 ^^^ 2 ^ k)) := by decide +kernel
theorem cl_tb {n k i : Nat} (hn : n < 64) : (n &&& (63 ^^^ 2 ^ k)).testBit i = (n.testBit i && !decide (i = k)) := by
  rw [Nat.testBit_and, Nat.testBit_xor, Nat.testBit_two_pow]
  by_cases hi : i < 6
  · have : (63 : Nat).testBit i = true := (by decide : ∀ i, i < 6 → (63 : Nat).testBit i = true) i hi
    rw [this]
    by_cases h : i = k
    · simp [h]
    · simp [h, Ne.symm h]
  · have : n.testBit i = false := Nat.testBit_lt_two_pow (Nat.lt_of_lt_of_le hn (show 2 ^ 6 ≤ 2 ^ i from Nat.pow_le_pow_right (by decide) (by omega)))
    simp [this]
theorem or_lt64 {n k : Nat} (hn : n < 64) (hk : k < 6) : n ||| 2 ^ k < 64 := Nat.or_lt_two_pow (n := 6) hn (show 2 ^ k < 2 ^ 6 from Nat.pow_lt_pow_right (by decide) hk)
section
variable {b : UH} {fi : Nat → Nat → Nat → Int32} {fj : Nat → Nat → Nat → Int64} {ai : Nat → Nat → Int32} {aj : Nat → Nat → Int64} {ar : Nat → Nat → Option Nat} {bits la : Nat} {rs : List RT} {x1 : Int32} {n : Nat}
theorem x_isHidden (hs : xst b) (hA : LA la) (hL : LiP b fi fj ar la rs) (hbw : BW bits) (hW : ∀ r ∈ rs, RW bits r) (hx : x1 = nI n) (hn : n < rs.length) : wp (fX7_isHidden la x1 (mk b fi fj ai aj ar)) (fun q => q = 0 ∨ q = 1) ∧ wp (fX7_isHidden la x1 (mk b fi fj ai aj ar)) (fun q => q = 1 ↔ ∀ port, port < 4 → ∀ h, h < 2 ^ bits → hd rs port h ≠ some n) := by
  have key : wp (fX7_isHidden la x1 (mk b fi fj ai aj ar)) (fun q => (q = 0 ∧ ¬ ∀ port, port < 4 → ∀ h, h < 2 ^ bits → hd rs port h ≠ some n) ∨ (q = 1 ∧ ∀ port, port < 4 → ∀ h, h < 2 ^ bits → hd rs port h ≠ some n)) := by
    have h6 := hL.2.1
    unfold fX7_isHidden
    refine wp_oew (Q := fun q => match q with | .inl _ => (∀ port, port < 4 → ∀ h, h < 2 ^ bits → hd rs port h ≠ some n) | .inr z => z = 0 ∧ ¬ ∀ port, port < 4 → ∀ h, h < 2 ^ bits → hd rs port h ≠ some n) ?_ (fun _ hq => wp_some (Or.inr ⟨rfl, hq⟩)) (fun z hq => wp_some (Or.inl hq))
    refine it1_up1F (show (0 : Int32) = nI 0 from rfl) 4 (by decide) (fun q => ∀ port, port < q → ∀ h, h < 2 ^ bits → hd rs port h ≠ some n) (fun k q hq hI hk => ?_) (Nat.zero_le _) (fun j hj => absurd hj (Nat.not_lt_zero _))
    unfold fX7_isHidden_B2
    refine wp_le (a := 4) rfl rfl (by decide) (by omega) (fun hc => wp_some (fun port hp => hI port (by omega))) (fun hc => ?_)
    have hr : rs[n]? = some (rs[n]'hn) := List.getElem?_eq_getElem hn
    generalize rs[n] = r at hr
    obtain ⟨ra, e1, e2⟩ := hL.2.2.2 n r hr
    refine oR (hs.1 _ _ hA.1) (hs.2.2 _ _ _ _ hA.2.2.2) (oLR (hs.1 _ _ hA.2.1) (hs.2.1 _ _ hA.2.2.1) hx (by omega) (by decide) e1 (oJ e2.1 ?_))
    refine oKw (hs.1 _ _ hA.1) (x_handled hs hA hL hW hx hn rfl hc _) (fun z hz => ?_)
    have hcu : ∀ h, h < 32 → hd rs q h = some n → tb (fj 6 7 ra) h = true := fun h hh hhd => by
      obtain ⟨r', z1, z2, -⟩ := hd_some hhd
      rw [hr] at z1; cases z1
      rw [e2.2.2 h (by omega)]
      unfold mt at z2
      simp only [Bool.and_eq_true] at z2
      simp [hh]
      simpa using z2.2
    refine wp_if (fun h0 => ?_) (fun h0 => ?_)
    · refine hk hc _ (nI_1 q) (fun port hp h hh => ?_)
      rcases Nat.lt_or_ge port q with h1 | h1
      · exact hI port h1 h hh
      · have : port = q := by omega
        subst this
        intro hhd
        have h32 := lt32 hbw hh
        have := tb_zero.mp h0 h (by omega)
        have h2 := (hz h (by omega)).mpr ⟨hcu h h32 hhd, h32, hhd⟩
        rw [h2] at this
        cases this
    · refine wp_some ⟨rfl, fun hall => ?_⟩
      obtain ⟨h, h64, ht⟩ := tb_nz h0
      obtain ⟨-, h32, hhd⟩ := (hz h h64).mp ht
      have hp := Nat.two_pow_pos bits
      exact hall q hc (h % 2 ^ bits) (Nat.mod_lt _ hp) (by rw [hd_mod hW]; exact hhd)
  refine ⟨wp_mono key (fun q hq => ?_), wp_mono key (fun q hq => ?_)⟩
  · rcases hq with h | h
    · exact Or.inl h.1
    · exact Or.inr h.1
  · rcases hq with h | h
    · rw [h.1]; exact ⟨fun e => absurd e (by decide), fun e => absurd e h.2⟩
    · rw [h.1]; exact ⟨fun _ => h.2, fun _ => rfl⟩
theorem x_hiddenRules (hs : xst b) (hA : LA la) (hL : LiP b fi fj ar la rs) (hbw : BW bits) (hW : ∀ r ∈ rs, RW bits r) : wp (fX7_hiddenRules la (mk b fi fj ai aj ar)) (fun q => ∃ v, q = nI v ∧ ∀ i, v.testBit i = true ↔ Hid bits rs i) := by
  have h6 := hL.2.1
  unfold fX7_hiddenRules
  refine wp_obw (Q := fun q => ∃ v, q = nI v ∧ ∀ i, v.testBit i = true ↔ Hid bits rs i) ?_ (fun q hq => wp_some hq)
  refine it2_up2F (show (0 : Int32) = nI 0 from rfl) rs.length (by omega) (fun q z => ∃ v, z = nI v ∧ v < 64 ∧ ∀ i, v.testBit i = true ↔ (i < q ∧ Hid bits rs i)) (fun k q z hq hI hk => ?_) (Nat.zero_le _) ⟨0, rfl, by decide, fun i => by simp⟩
  obtain ⟨v, rfl, hv, hI⟩ := hI
  unfold fX7_hiddenRules_B4
  refine oi (hs.1 _ _ hA.1) ?_
  rw [hL.1]
  refine wp_le rfl rfl (by omega) (by omega) (fun hc => wp_some ⟨v, rfl, fun i => ?_⟩) (fun hc => ?_)
  · rw [hI i]
    constructor
    · exact fun h => h.2
    · intro h
      have ⟨r, hr, _⟩ := h
      have := (List.getElem?_eq_some_iff.mp hr).1
      exact ⟨by omega, h⟩
  · have hr : rs[q]? = some (rs[q]'hc) := List.getElem?_eq_getElem hc
    generalize rs[q] = r at hr
    have hw := hW r (List.mem_of_getElem? hr)
    have hr6 : r 6 ≤ 1 := by have := hw.2.2.2.2.2.2.2.2.2.1; omega
    obtain ⟨ra, e1, e2⟩ := hL.2.2.2 q r hr
    have skip : ¬ Hid bits rs q → ∃ v', nI v = nI v' ∧ v' < 64 ∧ ∀ i, v'.testBit i = true ↔ (i < q + 1 ∧ Hid bits rs i) := fun hn => ⟨v, rfl, hv, fun i => by
      rw [hI i]
      constructor
      · exact fun h => ⟨by omega, h.2⟩
      · rintro ⟨h1, h2⟩
        refine ⟨?_, h2⟩
        rcases Nat.lt_or_ge i q with h3 | h3
        · exact h3
        · have : i = q := by omega
          subst this; exact absurd h2 hn⟩
    refine oR (hs.1 _ _ hA.1) (hs.2.2 _ _ _ _ hA.2.2.2) (oLR (hs.1 _ _ hA.2.1) (hs.2.1 _ _ hA.2.2.1) rfl (by omega) (by decide) e1 (oi e2.1 ?_))
    rw [e2.2.1 6 (by decide)]
    refine wp_eqq rfl (show (0 : Int32) = nI 0 from rfl) (by omega) (by decide) (fun h0 => ?_) (fun h0 => ?_)
    · refine hk hc _ _ (nI_1 q) (skip ?_)
      rintro ⟨r', a1, a2, -⟩
      rw [hr] at a1; cases a1; omega
    · have hk1 := x_isHidden (ai := ai) (aj := aj) hs hA hL hbw hW (n := q) rfl hc
      obtain ⟨z, e3, z1⟩ := hk1.1
      obtain ⟨z', e4, z2⟩ := hk1.2
      rw [e3] at e4; cases e4
      refine oE (hs.1 _ _ hA.1) e3 ?_
      refine wp_if (fun hz => ?_) (fun hz => ?_)
      · refine hk hc _ _ (nI_1 q) (skip ?_)
        rintro ⟨r', a1, a2, a3⟩
        have := z2.mpr a3
        rw [this] at hz; exact absurd hz (by decide)
      · have hz1 : z = 1 := by
          rcases z1 with h | h
          · exact absurd h hz
          · exact h
        refine wp_lt (hk hc _ _ (nI_1 q) ⟨v ||| 2 ^ q, by rw [jsl_1 (by omega), nx_or], or_lt64 hv (by omega), fun i => ?_⟩)
        rw [fb_bit_set, Bool.or_eq_true, hI i, decide_eq_true_eq]
        constructor
        · rintro (h | h)
          · exact ⟨by omega, h.2⟩
          · subst h; exact ⟨by omega, r, hr, by omega, z2.mp hz1⟩
        · rintro ⟨h1, h2⟩
          rcases Nat.lt_or_ge i q with h3 | h3
          · exact Or.inl ⟨h3, h2⟩
          · exact Or.inr (by omega)
theorem m_shadowed {rb : RB} {box : Nat} (hs : mst b) (hb : fi 12 0 0 = nI bits) (hN : NowP (ai 2) rb) (hbw : BW bits) (hW : RBW bits rb) (hx : x1 = nI box) (hbx : box < 6) : wp (fX12_shadowed 0 x1 (mk b fi fj ai aj ar)) (fun q => ∃ v, q = nI v ∧ ∀ i, v.testBit i = true ↔ Hid bits (rb box) i) := by
  have h6 := (hW box hbx).1
  have hp2 := (pow_b hbw).2
  unfold fX12_shadowed
  refine wp_obe (m_noBox_ok _ hx hbx) (wp_t rfl ?_)
  refine wp_obw (Q := fun q => ∃ v, q = nI v ∧ v < 64 ∧ ∀ i, v.testBit i = true ↔ ∃ r, (rb box)[i]? = some r ∧ r 6 = 1) ?_ (fun q hq => ?_)
  · refine it2_up2F (show (0 : Int32) = nI 0 from rfl) (rb box).length (by omega) (fun q z => ∃ v, z = nI v ∧ v < 64 ∧ ∀ i, v.testBit i = true ↔ (i < q ∧ ∃ r, (rb box)[i]? = some r ∧ r 6 = 1)) (fun k q z hq hI hk => ?_) (Nat.zero_le _) ⟨0, rfl, by decide, fun i => by simp⟩
    obtain ⟨v, rfl, hv, hI⟩ := hI
    unfold fX12_shadowed_B13
    refine mE hs (m_manyr hs hN hx hbx) (wp_le rfl rfl (by omega) (by omega) (fun hc => wp_some ⟨v, rfl, hv, fun i => ?_⟩) (fun hc => ?_))
    · rw [hI i]
      constructor
      · exact fun h => h.2
      · intro h
        have ⟨r, hr, _⟩ := h
        have := (List.getElem?_eq_some_iff.mp hr).1
        exact ⟨by omega, h⟩
    · have hr : (rb box)[q]? = some ((rb box)[q]'hc) := List.getElem?_eq_getElem hc
      generalize (rb box)[q] = r at hr
      have hw := (hW box hbx).2 r (List.mem_of_getElem? hr)
      refine mE hs (m_ofr (f := 6) hs hN h6 hx rfl rfl hbx hr (by decide)) (wp_lt ?_)
      rcases hw.2.2.2.2.2.2.2.2.2.1 with h0 | h0
      · rw [h0, show nI 0 = (0 : Int32) from rfl, jsl_0 (by omega), nx_or, Nat.or_zero]
        refine hk hc _ _ (nI_1 q) ⟨v, rfl, hv, fun i => ?_⟩
        rw [hI i]
        constructor
        · exact fun h => ⟨by omega, h.2⟩
        · rintro ⟨h1, h2⟩
          refine ⟨?_, h2⟩
          rcases Nat.lt_or_ge i q with h3 | h3
          · exact h3
          · have : i = q := by omega
            subst this
            obtain ⟨r', a1, a2⟩ := h2
            rw [hr] at a1; cases a1; omega
      · rw [h0, show nI 1 = (1 : Int32) from rfl, jsl_1 (by omega), nx_or]
        refine hk hc _ _ (nI_1 q) ⟨v ||| 2 ^ q, rfl, or_lt64 hv (by omega), fun i => ?_⟩
        rw [fb_bit_set, Bool.or_eq_true, hI i, decide_eq_true_eq]
        constructor
        · rintro (h | h)
          · exact ⟨by omega, h.2⟩
          · subst h; exact ⟨by omega, r, hr, h0⟩
        · rintro ⟨h1, h2⟩
          rcases Nat.lt_or_ge i q with h3 | h3
          · exact Or.inl ⟨h3, h2⟩
          · exact Or.inr (by omega)
  · obtain ⟨v0, rfl, hv0, hI0⟩ := hq
    refine wp_obw (Q := fun q => ∃ v, q = nI v ∧ ∀ i, v.testBit i = true ↔ Hid bits (rb box) i) ?_ (fun q hq => wp_some hq)
    refine it2_up2F (show (0 : Int32) = nI 0 from rfl) 4 (by decide) (fun q z => ∃ v, z = nI v ∧ v < 64 ∧ ∀ i, v.testBit i = true ↔ ((∃ r, (rb box)[i]? = some r ∧ r 6 = 1) ∧ ∀ port, port < q → ∀ h, h < 2 ^ bits → hd (rb box) port h ≠ some i)) (fun k q z hq hI hk => ?_) (Nat.zero_le _) ⟨v0, rfl, hv0, fun i => by rw [hI0 i]; exact ⟨fun h => ⟨h, fun port hp => absurd hp (Nat.not_lt_zero _)⟩, fun h => h.1⟩⟩
    obtain ⟨v, rfl, hv, hI⟩ := hI
    unfold fX12_shadowed_B43
    refine wp_le (a := 4) rfl rfl (by decide) (by omega) (fun hc => wp_some ⟨v, rfl, fun i => ?_⟩) (fun hc => ?_)
    · rw [hI i]
      unfold Hid
      constructor
      · rintro ⟨⟨r, a1, a2⟩, a3⟩; exact ⟨r, a1, a2, fun port hp => a3 port (by omega)⟩
      · rintro ⟨r, a1, a2, a3⟩; exact ⟨⟨r, a1, a2⟩, fun port hp => a3 port (by omega)⟩
    · refine wp_obw (Q := fun z => ∃ v', z = nI v' ∧ v' < 64 ∧ ∀ i, v'.testBit i = true ↔ (v.testBit i = true ∧ ∀ h, h < 2 ^ bits → hd (rb box) q h ≠ some i)) ?_ (fun z hz => ?_)
      · refine it2_up2F (show (0 : Int32) = nI 0 from rfl) (2 ^ bits) (by omega) (fun g z => ∃ v', z = nI v' ∧ v' < 64 ∧ ∀ i, v'.testBit i = true ↔ (v.testBit i = true ∧ ∀ h, h < g → hd (rb box) q h ≠ some i)) (fun k2 g z hg hI2 hk2 => ?_) (Nat.zero_le _) ⟨v, rfl, hv, fun i => ⟨fun h => ⟨h, fun j hj => absurd hj (Nat.not_lt_zero _)⟩, fun h => h.1⟩⟩
        obtain ⟨v', rfl, hv', hI2⟩ := hI2
        unfold fX12_shadowed_B51
        refine mE hs (m_headers hs hb hbw) (wp_le rfl rfl (by omega) (by omega) (fun hc2 => wp_some ⟨v', rfl, hv', fun i => ?_⟩) (fun hc2 => ?_))
        · have : g = 2 ^ bits := by omega
          subst this; exact hI2 i
        · refine mE hs (m_handler hs hN hbw hW hx hbx rfl hc rfl (lt32 hbw hc2)) ?_
          cases hh : hd (rb box) q g with
          | none =>
            refine wp_f (by decide) (wp_lt (hk2 hc2 _ _ (nI_1 g) ⟨v', Int32.and_neg_one, hv', fun i => ?_⟩))
            rw [hI2 i]
            constructor
            · rintro ⟨h1, h2⟩
              refine ⟨h1, fun h hh2 => ?_⟩
              rcases Nat.lt_or_ge h g with h3 | h3
              · exact h2 h h3
              · have : h = g := by omega
                subst this; rw [hh]; exact fun e => by cases e
            · rintro ⟨h1, h2⟩; exact ⟨h1, fun h hh2 => h2 h (by omega)⟩
          | some w =>
            have hw := hd_lt hh
            refine wp_t (nI_pos' (by omega)) (wp_lt (hk2 hc2 _ _ (nI_1 g) ⟨v' &&& (63 ^^^ 2 ^ w), ?_, Nat.lt_of_le_of_lt Nat.and_le_left hv', fun i => ?_⟩))
            · show nI v' &&& (jsl 1 (nI w) ^^^ (-1)) = _
              rw [jsl_1 (by omega)]; exact cl_bit v' hv' w (by omega)
            · rw [cl_tb hv', Bool.and_eq_true, hI2 i]
              simp only [Bool.not_eq_true', decide_eq_false_iff_not]
              constructor
              · rintro ⟨⟨h1, h2⟩, h3⟩
                refine ⟨h1, fun h hh2 => ?_⟩
                rcases Nat.lt_or_ge h g with h4 | h4
                · exact h2 h h4
                · have : h = g := by omega
                  subst this; rw [hh]; exact fun e => h3 (by cases e; rfl)
              · rintro ⟨h1, h2⟩
                exact ⟨⟨h1, fun h hh2 => h2 h (by omega)⟩, fun e => h2 g (by omega) (by rw [hh, e])⟩
      · obtain ⟨v', rfl, hv', hI2⟩ := hz
        refine hk hc _ _ (nI_1 q) ⟨v', rfl, hv', fun i => ?_⟩
        rw [hI2 i, hI i]
        constructor
        · rintro ⟨⟨h1, h2⟩, h3⟩
          refine ⟨h1, fun port hp h hh => ?_⟩
          rcases Nat.lt_or_ge port q with h4 | h4
          · exact h2 port h4 h hh
          · have : port = q := by omega
            subst this; exact h3 h hh
        · rintro ⟨h1, h2⟩
          exact ⟨⟨h1, fun port hp => h2 port (by omega)⟩, fun h hh => h2 q (by omega) h hh⟩
end
section PUB
variable {T : TS} {x m : UH} {x1 x2 x3 x4 x5 x6 : Int32}
theorem s_shadowed (hR : RR T x m) : SIMP (fX11_shadowed 0 x1 x) (fX12_shadowed 0 x1 m) := by
  obtain ⟨hW, ⟨hs, hd, hP⟩, hms, hM⟩ := hR
  rcases ix x1 6 (by decide) with ⟨box, hb, rfl⟩ | hb
  · have hL : LiP x (uI x) (uJ x) (uAR x) (5 + 2 * box) (tR T box) := hP.2.2.2.2.1 box hb
    have hA := LA_box box hb
    obtain ⟨q, eq1, v, rfl, hv⟩ := m_shadowed (fj := uJ m) (aj := uAJ m) (ar := uAR m) hms hM.1 hM.2.2.2.1 hW.1 hW.2.2.1 (x1 := nI box) rfl hb
    refine simp2 (r := nI v) ?_ (wp_of eq1)
    show wp (fX11_shadowed 0 (nI box) (mk x (uI x) (uJ x) (uAI x) (uAJ x) (uAR x))) _
    unfold fX11_shadowed
    refine wp_obe (x_isBox_ok _ rfl hb) (wp_f (by decide) ?_)
    refine oR (hs.1 0 12 rfl) (hs.2.2 11 0 0 1 rfl) (oR (hs.1 1 5 rfl) (hs.2.2 4 3 1 3 rfl) (oLR (hs.1 3 26 rfl) (hs.2.1 3 6 rfl) rfl hb (by decide) (hP.1.1 box hb) ?_))
    refine oKw (hs.1 _ _ hA.1) (x_hiddenRules hs hA hL hW.1 (hW.2.2.1 box hb).2) (fun z hz => wp_some ?_)
    obtain ⟨v', rfl, hv'⟩ := hz
    congr 1
    apply Nat.eq_of_testBit_eq
    intro i
    rw [Bool.eq_iff_iff, hv i, hv' i]
  · refine simp2 (r := -1) ?_ ?_
    · unfold fX11_shadowed
      exact wp_obe (x_isBox_bad _ hb) (wp_t rfl (wp_some rfl))
    · unfold fX12_shadowed
      exact wp_obe (m_noBox_bad _ hb) (wp_f (by decide) (wp_some rfl))
end PUB
