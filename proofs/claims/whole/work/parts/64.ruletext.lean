/-! the text of a rule -/
def dgsN (o : Nat) : Nat → List Nat
  | 0 => []
  | n + 1 => dgsN o n ++ (if o.testBit n then [48 + n] else [])
def chP (care value n : Nat) : Nat := if care.testBit n then (if value.testBit n then 49 else 48) else 42
def patN (care value : Nat) : Nat → List Nat
  | 0 => []
  | n + 1 => chP care value n :: patN care value n
def rtx (b : Nat) (r : RT) : List Nat := ((((if r 0 = 15 then [42] else dgsN (r 0) 4) ++ [58]) ++ patN (r 1) (r 2) b) ++ (if r 3 = 0 then [33] else [62] ++ dgsN (r 3) 4)) ++ (if r 4 = 0 then [] else [61] ++ patN (r 4) (r 5) b)
theorem dgsN_len (o : Nat) : ∀ n, (dgsN o n).length ≤ n
  | 0 => Nat.le_refl _
  | n + 1 => by
    have := dgsN_len o n
    unfold dgsN
    rw [List.length_append]
    split
    · simp; omega
    · simp; omega
theorem patN_len (c v : Nat) : ∀ n, (patN c v n).length = n
  | 0 => rfl
  | n + 1 => by unfold patN; rw [List.length_cons, patN_len c v n]
theorem nar_c : ∀ c, c < 128 → vp_nar .char (nI c) = nI c := by decide +kernel
theorem jc_d : ∀ p, p < 4 → jc ((48 : Int32) + nI p) = nI (48 + p) := by decide +kernel
theorem sub1 (k : Nat) : nI k + (-1) = nI k - 1 := (Int32.sub_eq_add_neg _ _).symm
theorem chP_lt (c v n : Nat) : chP c v n < 128 := by
  unfold chP
  split
  · split <;> decide
  · decide
def WrX (fi : Nat → Nat → Nat → Int32) (ai : Nat → Nat → Int32) (L : List Nat) : Prop := fi 8 1 62 = nI L.length ∧ ∀ (i : Nat) c, L[i]? = some c → ai 63 i = nI c
def WX (b : UH) (fi : Nat → Nat → Nat → Int32) (fj : Nat → Nat → Nat → Int64) (ai : Nat → Nat → Int32) (aj : Nat → Nat → Int64) (ar : Nat → Nat → Option Nat) (L : List Nat) (u : UH) : Prop := ∃ fi' ai', u = mk b fi' fj ai' aj ar ∧ (∀ c k a, c ≠ 8 → fi' c k a = fi c k a) ∧ (∀ a, a ≠ 63 → ai' a = ai a) ∧ WrX fi' ai' L
def WrM (fi : Nat → Nat → Nat → Int32) (ai : Nat → Nat → Int32) (L : List Nat) : Prop := fi 12 31 0 = nI L.length ∧ ∀ (i : Nat) c, L[i]? = some c → ai 18 i = nI c
def WM (b : UH) (fi : Nat → Nat → Nat → Int32) (fj : Nat → Nat → Nat → Int64) (ai : Nat → Nat → Int32) (aj : Nat → Nat → Int64) (ar : Nat → Nat → Option Nat) (L : List Nat) (u : UH) : Prop := ∃ fi' ai', u = mk b fi' fj ai' aj ar ∧ (∀ k, k ≠ 31 → fi' 12 k 0 = fi 12 k 0) ∧ (∀ a, a ≠ 18 → ai' a = ai a) ∧ WrM fi' ai' L
section
variable {b : UH} {fi : Nat → Nat → Nat → Int32} {fj : Nat → Nat → Nat → Int64} {ai : Nat → Nat → Int32} {aj : Nat → Nat → Int64} {ar : Nat → Nat → Option Nat} {T : TS} {L : List Nat} {u : UH} {c o v bits : Nat}
theorem x_put (hs : xst b) (hL : L.length < 40) (hc : c < 128) (h : WX b fi fj ai aj ar L u) : wp (fX8_put 62 (nI c) u) (WX b fi fj ai aj ar (L ++ [c])) := by
  obtain ⟨fi', ai', rfl, h1, h2, h3, h4⟩ := h
  unfold fX8_put
  refine oi (hs.1 62 9 rfl) ?_
  rw [h3]
  refine wp_f (nI_ge hL (by decide)) (oR (hs.1 62 9 rfl) (hs.2.2 8 0 62 63 rfl) (oi (hs.1 62 9 rfl) (oSC (hs.1 63 22 rfl) (hs.2.1 63 40 rfl) h3 hL (by decide) (oi (hs.1 62 9 rfl) (oW (hs.1 62 9 rfl) (wp_some ⟨_, _, rfl, fun c k a hc => by rw [up3_c hc]; exact h1 c k a hc, fun a ha => by rw [up2_a ha]; exact h2 a ha, ?_, fun i d hd => ?_⟩))))))
  · rw [up3_s, h3, nI_1, List.length_append]; rfl
  · rcases get_snoc hd with ⟨e1, e2⟩ | ⟨e1, e2⟩
    · rw [up2_i (by omega)]; exact h4 i d e2
    · rw [e1, e2, up2_s, nar_c c hc]
theorem m_write (hs : mst b) (hL : L.length < 32) {x1 : Int32} (h1 : x1 = nI c) (h : WM b fi fj ai aj ar L u) : wp (fX12_write 0 x1 u) (WM b fi fj ai aj ar (L ++ [c])) := by
  obtain ⟨fi', ai', rfl, h1', h2, h3, h4⟩ := h
  unfold fX12_write
  refine mR hs rfl (mI hs (mS hs rfl rfl (by decide) h3 hL (mI hs (mW hs (wp_some ⟨_, _, rfl, fun k hk => by rw [up3_k hk]; exact h1' k hk, fun a ha => by rw [up2_a ha]; exact h2 a ha, ?_, fun i d hd => ?_⟩)))))
  · rw [up3_s, h3, nI_1, List.length_append]; rfl
  · rcases get_snoc hd with ⟨e1, e2⟩ | ⟨e1, e2⟩
    · rw [up2_i (by omega)]; exact h4 i d e2
    · rw [e1, e2, up2_s, h1]
theorem x_putDigits (hs : xst b) (hL : L.length ≤ 30) (ho : o ≤ 15) (h : WX b fi fj ai aj ar L u) : wp (fX8_putDigits 62 (nI o) u) (WX b fi fj ai aj ar (L ++ dgsN o 4)) := by
  unfold fX8_putDigits
  refine wp_obw (Q := WX b fi fj ai aj ar (L ++ dgsN o 4)) ?_ (fun u hu => wp_some hu)
  refine it2_up1F (show (0 : Int32) = nI 0 from rfl) 4 (by decide) (fun n u => WX b fi fj ai aj ar (L ++ dgsN o n) u) (fun k n u hn hI hk => ?_) (Nat.zero_le _) (by rw [show dgsN o 0 = [] from rfl, List.append_nil]; exact h)
  unfold fX8_putDigits_B2
  refine wp_le (a := 4) rfl rfl (by decide) (by omega) (fun hc => wp_some ?_) (fun hc => ?_)
  · have : n = 4 := by omega
    subst this; exact hI
  have hl := dgsN_len o n
  refine wp_obe (x_hasPort _ rfl rfl (by omega) (by omega)) ?_
  cases htb : o.testBit n with
  | false =>
    refine wp_t rfl (hk hc _ _ (nI_1 n) ?_)
    show WX b fi fj ai aj ar (L ++ (dgsN o n ++ (if o.testBit n then [48 + n] else []))) u
    rw [htb]
    simp only [Bool.false_eq_true, if_false, List.append_nil]
    exact hI
  | true =>
    refine wp_f (by decide) ?_
    rw [jc_d n hc]
    have hI0 := hI
    obtain ⟨fi', ai', rfl, _⟩ := hI
    refine oKw (hs.1 62 9 rfl) (x_put hs (by rw [List.length_append]; omega) (by omega) hI0) (fun u hu => hk hc _ _ (nI_1 n) ?_)
    show WX b fi fj ai aj ar (L ++ (dgsN o n ++ (if o.testBit n then [48 + n] else []))) u
    rw [htb, if_pos rfl, ← List.append_assoc]
    exact hu
theorem m_writePorts (hs : mst b) (hL : L.length ≤ 20) (ho : o ≤ 15) (h : WM b fi fj ai aj ar L u) : wp (fX12_writePorts 0 (nI o) u) (WM b fi fj ai aj ar (L ++ dgsN o 4)) := by
  unfold fX12_writePorts
  refine wp_obw (Q := WM b fi fj ai aj ar (L ++ dgsN o 4)) ?_ (fun u hu => wp_some hu)
  refine it2_up1F (show (0 : Int32) = nI 0 from rfl) 4 (by decide) (fun n u => WM b fi fj ai aj ar (L ++ dgsN o n) u) (fun k n u hn hI hk => ?_) (Nat.zero_le _) (by rw [show dgsN o 0 = [] from rfl, List.append_nil]; exact h)
  unfold fX12_writePorts_B2
  refine wp_le (a := 4) rfl rfl (by decide) (by omega) (fun hc => wp_some ?_) (fun hc => ?_)
  · have : n = 4 := by omega
    subst this; exact hI
  have hl := dgsN_len o n
  refine wp_bit1 rfl rfl (by omega) (by omega) (fun htb => ?_) (fun htb => ?_)
  · have hI0 := hI
    obtain ⟨fi', ai', rfl, _⟩ := hI
    refine mKw hs (m_write (c := 48 + n) hs (by rw [List.length_append]; omega) (nI_add 48 n) hI0) (fun u hu => hk hc _ _ (nI_1 n) ?_)
    show WM b fi fj ai aj ar (L ++ (dgsN o n ++ (if o.testBit n then [48 + n] else []))) u
    rw [htb, if_pos rfl, ← List.append_assoc]
    exact hu
  · refine hk hc _ _ (nI_1 n) ?_
    show WM b fi fj ai aj ar (L ++ (dgsN o n ++ (if o.testBit n then [48 + n] else []))) u
    rw [htb]
    simp only [Bool.false_eq_true, if_false, List.append_nil]
    exact hI
theorem x_putPattern (hs : xst b) (hL : L.length ≤ 30) (hc : c < 32) (hv : v < 32) (hb : BW bits) (h : WX b fi fj ai aj ar L u) : wp (fX8_putPattern 62 (nI c) (nI v) (nI bits) u) (WX b fi fj ai aj ar (L ++ patN c v bits)) := by
  have hb5 := hb.2
  unfold fX8_putPattern
  refine wp_lt (wp_obw (Q := WX b fi fj ai aj ar (L ++ patN c v bits)) ?_ (fun u hu => wp_some hu))
  refine it2_gh (I := fun n y u => n ≤ 5 ∧ y = nI n - 1 ∧ ∃ L', L'.length + n ≤ 35 ∧ L' ++ patN c v n = L ++ patN c v bits ∧ WX b fi fj ai aj ar L' u) (fun k n y u hI hk => ?_) FUEL bits _ _ ⟨hb5, rfl, L, by omega, rfl, h⟩ (by unfold FUEL; omega)
  obtain ⟨hn5, rfl, L', hl, he, hw⟩ := hI
  unfold fX8_putPattern_B5
  rcases Nat.eq_zero_or_pos n with h0 | h0
  · subst h0
    refine wp_t (by decide) (wp_some ?_)
    rw [← he, show patN c v 0 = [] from rfl, List.append_nil]; exact hw
  rw [nI_dec h0]
  have hw0 := hw
  obtain ⟨fi', ai', rfl, _⟩ := hw
  have hp : patN c v n = chP c v (n - 1) :: patN c v (n - 1) := by
    obtain ⟨q, rfl⟩ : ∃ q, n = q + 1 := ⟨n - 1, by omega⟩
    rfl
  have nx : ∀ u, WX b fi fj ai aj ar (L' ++ [chP c v (n - 1)]) u → wp (k (nI (n - 1) + -1) u) (WX b fi fj ai aj ar (L ++ patN c v bits)) := fun u hu => hk (n - 1) _ _ (by omega) ⟨by omega, sub1 _, _, by rw [List.length_append]; simp; omega, by rw [List.append_assoc, ← he, hp]; rfl, hu⟩
  refine wp_f (nI_pos (by omega)) (wp_bit rfl rfl (by omega) (by omega) (fun hb1 => ?_) (fun hb1 => ?_))
  · have e : chP c v (n - 1) = 42 := by unfold chP; rw [hb1]; rfl
    rw [e] at nx
    exact oKw (hs.1 62 9 rfl) (x_put (c := 42) hs (by omega) (by decide) hw0) nx
  · refine wp_bit rfl rfl (by omega) (by omega) (fun hb2 => ?_) (fun hb2 => ?_)
    · have e : chP c v (n - 1) = 48 := by unfold chP; rw [hb1, hb2]; rfl
      rw [e] at nx
      unfold fX8_putPattern_45
      exact oKw (hs.1 62 9 rfl) (x_put (c := 48) hs (by omega) (by decide) hw0) nx
    · have e : chP c v (n - 1) = 49 := by unfold chP; rw [hb1, hb2]; rfl
      rw [e] at nx
      unfold fX8_putPattern_45
      exact oKw (hs.1 62 9 rfl) (x_put (c := 49) hs (by omega) (by decide) hw0) nx
theorem m_writePattern (hs : mst b) (hb0 : fi 12 0 0 = nI bits) (hL : L.length ≤ 20) (hc : c < 32) (hv : v < 32) (hb : BW bits) (h : WM b fi fj ai aj ar L u) : wp (fX12_writePattern 0 (nI c) (nI v) u) (WM b fi fj ai aj ar (L ++ patN c v bits)) := by
  have hb5 := hb.2
  unfold fX12_writePattern
  have h0 := h
  obtain ⟨fi0, ai0, rfl, f0, _⟩ := h
  refine mI hs (wp_lt ?_)
  rw [f0 0 (by decide), hb0]
  refine wp_obw (Q := WM b fi fj ai aj ar (L ++ patN c v bits)) ?_ (fun u hu => wp_some hu)
  refine it2_gh (I := fun n y u => n ≤ 5 ∧ y = nI n - 1 ∧ ∃ L', L'.length + n ≤ 25 ∧ L' ++ patN c v n = L ++ patN c v bits ∧ WM b fi fj ai aj ar L' u) (fun k n y u hI hk => ?_) FUEL bits _ _ ⟨hb5, rfl, L, by omega, rfl, h0⟩ (by unfold FUEL; omega)
  obtain ⟨hn5, rfl, L', hl, he, hw⟩ := hI
  unfold fX12_writePattern_B7
  rcases Nat.eq_zero_or_pos n with h0 | h0
  · subst h0
    refine wp_t (by decide) (wp_some ?_)
    rw [← he, show patN c v 0 = [] from rfl, List.append_nil]; exact hw
  rw [nI_dec h0]
  have hw0 := hw
  obtain ⟨fi', ai', rfl, _⟩ := hw
  have hp : patN c v n = chP c v (n - 1) :: patN c v (n - 1) := by
    obtain ⟨q, rfl⟩ : ∃ q, n = q + 1 := ⟨n - 1, by omega⟩
    rfl
  have nx : ∀ u, WM b fi fj ai aj ar (L' ++ [chP c v (n - 1)]) u → wp (k (nI (n - 1) + -1) u) (WM b fi fj ai aj ar (L ++ patN c v bits)) := fun u hu => hk (n - 1) _ _ (by omega) ⟨by omega, sub1 _, _, by rw [List.length_append]; simp; omega, by rw [List.append_assoc, ← he, hp]; rfl, hu⟩
  refine wp_f (nI_pos (by omega)) (wp_bit rfl rfl (by omega) (by omega) (fun hb1 => ?_) (fun hb1 => ?_))
  · have e : chP c v (n - 1) = 42 := by unfold chP; rw [hb1]; rfl
    rw [e] at nx
    unfold fX12_writePattern_33
    exact mKw hs (m_write (c := 42) hs (by omega) rfl hw0) nx
  · rw [jsr_bit (by omega) (by omega)]
    unfold fX12_writePattern_33
    refine mKw hs (m_write (c := chP c v (n - 1)) hs (by omega) ?_ hw0) nx
    unfold chP
    rw [hb1]
    cases hb2 : v.testBit (n - 1) <;> rfl
end
section PUB
variable {T : TS} {x m : UH} {x1 x2 x3 x4 x5 x6 : Int32}
theorem m_ruleText_ok {box i : Nat} {r : RT} (hW : WF T) (hms : mst m) (hM : MPic T (uI m) (uAI m)) (hb : box < 6) (hr : (tR T box)[i]? = some r) (h0 : (0 : Int32) ≤ x3) : wp (fX12_ruleText 0 (nI box) (nI i) x3 (mk m (uI m) (uJ m) (uAI m) (uAJ m) (uAR m))) (fun q => q.1 = (if nI (rtx (tB T) r).length ≤ x3 then -6 else nI (g0 (rtx (tB T) r) x3.toNatClampNeg)) ∧ MR T q.2) := by
  have h6 := (hW.2.2.1 box hb).1
  have hi := (List.getElem?_eq_some_iff.mp hr).1
  obtain ⟨w0, w1, w2, w3, w4, w5, w6, w7, w8, w9, w10⟩ := (hW.2.2.1 box hb).2 r (List.mem_of_getElem? hr)
  have hb5 := hW.1.2
  have pic : ∀ {L u}, WM m (uI m) (uJ m) (uAI m) (uAJ m) (uAR m) L u → ∃ fi' ai', u = mk m fi' (uJ m) ai' (uAJ m) (uAR m) ∧ MPic T fi' ai' ∧ WrM fi' ai' L := by
    intro L u h
    obtain ⟨fi', ai', e, f1, f2, f3⟩ := h
    exact ⟨fi', ai', e, hM.sc (fun k hk => f1 k (by omega)) (fun a ha => f2 a (by omega)), f3⟩
  have of : ∀ {L u} (f : Nat), f < 7 → WM m (uI m) (uJ m) (uAI m) (uAJ m) (uAR m) L u → ∀ {β : Type} {K : Int32 → Option β} {P : β → Prop}, wp (K (nI (r f))) P → wp (ob (kd u 12 0 (fX12_of 0 (nI box) (nI i) (nI f) u)) K) P := by
    intro L u f hf h β K P hK
    obtain ⟨fi', ai', rfl, hM', _⟩ := pic h
    exact mE hms (m_ofr (f := f) hms hM'.2.2.2.1 h6 rfl rfl rfl hb hr hf) hK
  have go : ∀ {L u}, WM m (uI m) (uJ m) (uAI m) (uAJ m) (uAR m) L u → ∀ {y : Option UH} {L' : List Nat}, wp y (WM m (uI m) (uJ m) (uAI m) (uAJ m) (uAR m) L') → ∀ {β : Type} {K : UH → Option β} {P : β → Prop}, (∀ u', WM m (uI m) (uJ m) (uAI m) (uAJ m) (uAR m) L' u' → wp (K u') P) → wp (ob (kd u 12 0 y) K) P := by
    intro L u h y L' hy β K P hK
    obtain ⟨fi', ai', rfl, _⟩ := pic h
    exact mKw hms hy hK
  have ld := dgsN_len (r 0) 4
  have ld3 := dgsN_len (r 3) 4
  have lp := patN_len (r 1) (r 2) (tB T)
  have lp4 := patN_len (r 4) (r 5) (tB T)
  unfold fX12_ruleText
  refine mE hms (m_ruleBarred_ok hms hM.2.2.2.1 rfl hb h6 rfl hi) (wp_t (by decide) (wp_t h0 (mW hms ?_)))
  have s0 : WM m (uI m) (uJ m) (uAI m) (uAJ m) (uAR m) [] (mk m (up3 (uI m) 12 31 0 0) (uJ m) (uAI m) (uAJ m) (uAR m)) := ⟨_, _, rfl, fun k hk => up3_k hk, fun _ _ => rfl, up3_s, fun i c hc => by cases hc⟩
  have fin : ∀ {L u}, WM m (uI m) (uJ m) (uAI m) (uAJ m) (uAR m) L u → L = rtx (tB T) r → L.length ≤ 32 → wp (fX12_ruleText_154 0 x3 u) (fun q => q.1 = (if nI (rtx (tB T) r).length ≤ x3 then -6 else nI (g0 (rtx (tB T) r) x3.toNatClampNeg)) ∧ MR T q.2) := by
    intro L u h e hl
    obtain ⟨fi', ai', rfl, hM', w1, w2⟩ := pic h
    subst e
    unfold fX12_ruleText_154
    refine mI hms ?_
    rw [w1]
    refine wp_if (fun hc => wp_some ⟨by rw [if_pos hc], MR_mk hms hM'⟩) (fun hc => ?_)
    have h0' : ¬ x3 < 0 := fun z => by
      have h1 := Int32.lt_iff_toInt_lt.mp z
      have h2 := Int32.le_iff_toInt_le.mp h0
      omega
    obtain ⟨k, hk31, rfl⟩ := nI_of h0'
    have hk : k < (rtx (tB T) r).length := by
      rcases Nat.lt_or_ge k (rtx (tB T) r).length with h | h
      · exact h
      · exact absurd (nI_le h hk31) hc
    refine mR hms rfl (mL hms rfl rfl (by decide) rfl (by omega) (wp_some ⟨?_, MR_mk hms hM'⟩))
    rw [if_neg hc, nI_clamp hk31, w2 k _ (g0_get hk)]
  have s60 : ∀ {L u}, WM m (uI m) (uJ m) (uAI m) (uAJ m) (uAR m) L u → L = (if r 0 = 15 then [42] else dgsN (r 0) 4) → wp (fX12_ruleText_60 0 (nI box) (nI i) x3 u) (fun q => q.1 = (if nI (rtx (tB T) r).length ≤ x3 then -6 else nI (g0 (rtx (tB T) r) x3.toNatClampNeg)) ∧ MR T q.2) := by
    intro L u h e
    have lL : L.length ≤ 4 := by
      rw [e]; split
      · simp
      · exact ld
    unfold fX12_ruleText_60
    refine go h (m_write (c := 58) hms (by omega) rfl h) (fun u1 h1 => of 1 (by decide) h1 (of 2 (by decide) h1 ?_))
    have l1 : (L ++ [58]).length ≤ 5 := by rw [List.length_append]; simp; omega
    refine go h1 (m_writePattern hms hM.1 (by omega) (lt32 hW.1 w2) (lt32 hW.1 w3) hW.1 h1) (fun u2 h2 => of 3 (by decide) h2 ?_)
    have l2 : ((L ++ [58]) ++ patN (r 1) (r 2) (tB T)).length ≤ 10 := by rw [List.length_append, lp]; omega
    have s120 : ∀ {L' u}, WM m (uI m) (uJ m) (uAI m) (uAJ m) (uAR m) L' u → L' = ((L ++ [58]) ++ patN (r 1) (r 2) (tB T)) ++ (if r 3 = 0 then [33] else [62] ++ dgsN (r 3) 4) → wp (fX12_ruleText_120 0 (nI box) (nI i) x3 u) (fun q => q.1 = (if nI (rtx (tB T) r).length ≤ x3 then -6 else nI (g0 (rtx (tB T) r) x3.toNatClampNeg)) ∧ MR T q.2) := by
      intro L' u h' e'
      have l3 : L'.length ≤ 15 := by
        rw [e', List.length_append]
        split
        · simp only [List.length_cons, List.length_nil]; omega
        · simp only [List.length_append, List.length_cons, List.length_nil]; omega
      unfold fX12_ruleText_120
      refine of 4 (by decide) h' (wp_eqq (b := 0) rfl rfl (Nat.lt_of_lt_of_le (lt32 hW.1 w6) (by decide)) (by decide) (fun e4 => ?_) (fun e4 => ?_))
      · refine fin h' ?_ (by omega)
        unfold rtx
        rw [if_pos e4, List.append_nil, e', e]
      · refine go h' (m_write (c := 61) hms (by omega) rfl h') (fun u3 h3 => of 4 (by decide) h3 (of 5 (by decide) h3 ?_))
        refine go h3 (m_writePattern hms hM.1 (by rw [List.length_append]; simp; omega) (lt32 hW.1 w6) (lt32 hW.1 w7) hW.1 h3) (fun u4 h4 => fin h4 ?_ ?_)
        · unfold rtx
          rw [if_neg e4, List.append_assoc, e', e]
        · rw [List.length_append, List.length_append, lp4]; simp; omega
    refine wp_eqq (b := 0) rfl rfl (by omega) (by decide) (fun e3 => ?_) (fun e3 => ?_)
    · exact go h2 (m_write (c := 33) hms (by omega) rfl h2) (fun u3 h3 => s120 h3 (by rw [if_pos e3]))
    · refine go h2 (m_write (c := 62) hms (by omega) rfl h2) (fun u3 h3 => of 3 (by decide) h3 (go h3 (m_writePorts hms (by rw [List.length_append]; simp; omega) w5 h3) (fun u4 h4 => s120 h4 ?_)))
      rw [if_neg e3, List.append_assoc]
  refine of 0 (by decide) s0 (wp_eqq (b := 15) rfl rfl (by omega) (by decide) (fun e0 => ?_) (fun e0 => ?_))
  · exact go s0 (m_write (c := 42) hms (by decide) rfl s0) (fun u h => s60 h (by rw [if_pos e0]; rfl))
  · exact of 0 (by decide) s0 (go s0 (m_writePorts hms (by decide) w1 s0) (fun u h => s60 h (by rw [if_neg e0]; rfl)))
theorem x_ruleText_ok {box i : Nat} {r : RT} (hW : WF T) (hs : xst x) (hd : xdom x) (hP : XPic T x (uI x) (uJ x) (uAI x) (uAR x)) (hb : box < 6) (hr : (tR T box)[i]? = some r) (h0 : (0 : Int32) ≤ x3) : wp (fX11_ruleText 0 (nI box) (nI i) x3 (mk x (uI x) (uJ x) (uAI x) (uAJ x) (uAR x))) (fun q => q.1 = (if nI (rtx (tB T) r).length ≤ x3 then -6 else nI (g0 (rtx (tB T) r) x3.toNatClampNeg)) ∧ XR T q.2) := by
  have h6 := (hW.2.2.1 box hb).1
  have hi := (List.getElem?_eq_some_iff.mp hr).1
  obtain ⟨w0, w1, w2, w3, w4, w5, w6, w7, w8, w9, w10⟩ := (hW.2.2.1 box hb).2 r (List.mem_of_getElem? hr)
  have hb5 := hW.1.2
  have hL := hP.2.2.2.2.1 box hb
  have hA := LA_box box hb
  obtain ⟨ra, e1, e2⟩ := hL.2.2.2 i r hr
  have pic : ∀ {L u}, WX x (uI x) (uJ x) (uAI x) (uAJ x) (uAR x) L u → ∃ fi' ai', u = mk x fi' (uJ x) ai' (uAJ x) (uAR x) ∧ XPic T x fi' (uJ x) ai' (uAR x) ∧ RP x fi' (uJ x) ra r ∧ WrX fi' ai' L := by
    intro L u h
    obtain ⟨fi', ai', e, f1, f2, f3⟩ := h
    exact ⟨fi', ai', e, hP.sc (fun c k a hc => f1 c k a (by omega)) xsJ.refl (fun a ha => f2 a (by omega)), e2.sc (fun c k a hc => f1 c k a (by omega)) xsJ.refl, f3⟩
  have of : ∀ {L u} (f : Nat), f < 7 → WX x (uI x) (uJ x) (uAI x) (uAJ x) (uAR x) L u → ∀ {β : Type} {K : Int32 → Option β} {P : β → Prop}, wp (K (nI (r f))) P → wp (ob (rI u 6 f ra) K) P := by
    intro L u f hf h β K P hK
    obtain ⟨fi', ai', rfl, _, hR', _⟩ := pic h
    refine oi hR'.1 ?_
    rw [hR'.2.1 f hf]; exact hK
  have go : ∀ {L u}, WX x (uI x) (uJ x) (uAI x) (uAJ x) (uAR x) L u → ∀ {y : Option UH} {L' : List Nat}, wp y (WX x (uI x) (uJ x) (uAI x) (uAJ x) (uAR x) L') → ∀ {β : Type} {K : UH → Option β} {P : β → Prop}, (∀ u', WX x (uI x) (uJ x) (uAI x) (uAJ x) (uAR x) L' u' → wp (K u') P) → wp (ob (kd u 8 62 y) K) P := by
    intro L u h y L' hy β K P hK
    obtain ⟨fi', ai', rfl, _⟩ := pic h
    exact oKw (hs.1 62 9 rfl) hy hK
  have ld := dgsN_len (r 0) 4
  have ld3 := dgsN_len (r 3) 4
  have lp := patN_len (r 1) (r 2) (tB T)
  have lp4 := patN_len (r 4) (r 5) (tB T)
  have hwr : wp (fX8_write 62 ra (nI (tB T)) (mk x (uI x) (uJ x) (uAI x) (uAJ x) (uAR x))) (fun u => WX x (uI x) (uJ x) (uAI x) (uAJ x) (uAR x) (rtx (tB T) r) u ∧ (rtx (tB T) r).length ≤ 32) := by
    unfold fX8_write
    refine oW (hs.1 62 9 rfl) ?_
    have s0 : WX x (uI x) (uJ x) (uAI x) (uAJ x) (uAR x) [] (mk x (up3 (uI x) 8 1 62 0) (uJ x) (uAI x) (uAJ x) (uAR x)) := ⟨_, _, rfl, fun c k a hc => up3_c hc, fun _ _ => rfl, up3_s, fun i c hc => by cases hc⟩
    have s31 : ∀ {L u}, WX x (uI x) (uJ x) (uAI x) (uAJ x) (uAR x) L u → L = (if r 0 = 15 then [42] else dgsN (r 0) 4) → wp (fX8_write_31 62 ra (nI (tB T)) u) (fun u => WX x (uI x) (uJ x) (uAI x) (uAJ x) (uAR x) (rtx (tB T) r) u ∧ (rtx (tB T) r).length ≤ 32) := by
      intro L u h e
      have lL : L.length ≤ 4 := by
        rw [e]; split
        · simp
        · exact ld
      unfold fX8_write_31
      refine go h (x_put (c := 58) hs (by omega) (by decide) h) (fun u1 h1 => of 1 (by decide) h1 (of 2 (by decide) h1 ?_))
      have l1 : (L ++ [58]).length ≤ 5 := by rw [List.length_append]; simp; omega
      refine go h1 (x_putPattern hs (by omega) (lt32 hW.1 w2) (lt32 hW.1 w3) hW.1 h1) (fun u2 h2 => of 3 (by decide) h2 ?_)
      have l2 : ((L ++ [58]) ++ patN (r 1) (r 2) (tB T)).length ≤ 10 := by rw [List.length_append, lp]; omega
      refine wp_eqq (b := 0) rfl rfl (by omega) (by decide) (fun e3 => ?_) (fun e3 => ?_)
      · refine go h2 (x_put (c := 33) hs (by omega) (by decide) h2) (fun u3 h3 => wp_some ?_)
        have er : rtx (tB T) r = ((L ++ [58]) ++ patN (r 1) (r 2) (tB T)) ++ [33] := by unfold rtx; rw [if_pos e3, if_pos (w10 e3), List.append_nil, e]
        rw [er]
        exact ⟨h3, by rw [List.length_append]; simp only [List.length_cons, List.length_nil]; omega⟩
      · refine go h2 (x_put (c := 62) hs (by omega) (by decide) h2) (fun u3 h3 => of 3 (by decide) h3 (go h3 (x_putDigits hs (by rw [List.length_append]; simp; omega) w5 h3) (fun u4 h4 => of 4 (by decide) h4 ?_)))
        have l3 : ((((L ++ [58]) ++ patN (r 1) (r 2) (tB T)) ++ [62]) ++ dgsN (r 3) 4).length ≤ 15 := by
          rw [List.length_append, List.length_append]; simp only [List.length_cons, List.length_nil]; omega
        refine wp_eqq (b := 0) rfl rfl (Nat.lt_of_lt_of_le (lt32 hW.1 w6) (by decide)) (by decide) (fun e4 => wp_some ?_) (fun e4 => ?_)
        · have er : rtx (tB T) r = (((L ++ [58]) ++ patN (r 1) (r 2) (tB T)) ++ [62]) ++ dgsN (r 3) 4 := by unfold rtx; rw [if_neg e3, if_pos e4, List.append_nil, e, List.append_assoc _ [62]]
          rw [er]
          exact ⟨h4, by omega⟩
        · refine go h4 (x_put (c := 61) hs (by omega) (by decide) h4) (fun u5 h5 => of 4 (by decide) h5 (of 5 (by decide) h5 (go h5 (x_putPattern hs (by rw [List.length_append]; simp only [List.length_cons, List.length_nil]; omega) (lt32 hW.1 w6) (lt32 hW.1 w7) hW.1 h5) (fun u6 h6 => wp_some ?_))))
          have er : rtx (tB T) r = (((((L ++ [58]) ++ patN (r 1) (r 2) (tB T)) ++ [62]) ++ dgsN (r 3) 4) ++ [61]) ++ patN (r 4) (r 5) (tB T) := by unfold rtx; rw [if_neg e3, if_neg e4, e, List.append_assoc _ [62], List.append_assoc _ [61]]
          rw [er]
          exact ⟨h6, by rw [List.length_append, List.length_append, lp4]; simp only [List.length_cons, List.length_nil]; omega⟩
    refine of 0 (by decide) s0 (wp_eqq (b := 15) rfl rfl (by omega) (by decide) (fun e0 => ?_) (fun e0 => ?_))
    · exact go s0 (x_put (c := 42) hs (by decide) (by decide) s0) (fun u h => s31 h (by rw [if_pos e0]; rfl))
    · exact of 0 (by decide) s0 (go s0 (x_putDigits hs (by decide) w1 s0) (fun u h => s31 h (by rw [if_neg e0]; rfl)))
  unfold fX11_ruleText
  refine oE (hs.1 0 12 rfl) (x_ruleError_ok hs hP.1 hL rfl hb rfl hi) (wp_t rfl (wp_t h0 (oR (hs.1 0 12 rfl) (hs.2.2 11 7 0 62 rfl) (oR (hs.1 0 12 rfl) (hs.2.2 11 0 0 1 rfl) (oR (hs.1 1 5 rfl) (hs.2.2 4 3 1 3 rfl) (oLR (hs.1 3 26 rfl) (hs.2.1 3 6 rfl) rfl hb (by decide) (hP.1.1 box hb) (oR (hs.1 _ _ hA.1) (hs.2.2 _ _ _ _ hA.2.2.2) (oLR (hs.1 _ _ hA.2.1) (hs.2.1 _ _ hA.2.2.1) rfl (by omega) (by decide) e1 (oR (hs.1 0 12 rfl) (hs.2.2 11 0 0 1 rfl) (oi (hs.1 1 5 rfl) ?_))))))))))
  rw [hP.2.1]
  refine oKw (hs.1 62 9 rfl) hwr (fun u hu => ?_)
  obtain ⟨fi', ai', rfl, hP', _, q1, q2⟩ := pic hu.1
  have h32 := hu.2
  refine oR (hs.1 0 12 rfl) (hs.2.2 11 7 0 62 rfl) (oi (hs.1 62 9 rfl) ?_)
  rw [q1]
  refine wp_if (fun hc => wp_some ⟨by rw [if_pos hc], XR_mk hs hd hP'⟩) (fun hc => ?_)
  have h0' : ¬ x3 < 0 := fun z => by
    have h1 := Int32.lt_iff_toInt_lt.mp z
    have h2 := Int32.le_iff_toInt_le.mp h0
    omega
  obtain ⟨k, hk31, rfl⟩ := nI_of h0'
  have hk : k < (rtx (tB T) r).length := by
    rcases Nat.lt_or_ge k (rtx (tB T) r).length with h | h
    · exact h
    · exact absurd (nI_le h hk31) hc
  refine oR (hs.1 0 12 rfl) (hs.2.2 11 7 0 62 rfl) (oR (hs.1 62 9 rfl) (hs.2.2 8 0 62 63 rfl) (oL (hs.1 63 22 rfl) (hs.2.1 63 40 rfl) rfl (by omega) (by decide) (wp_some ⟨?_, XR_mk hs hd hP'⟩)))
  rw [if_neg hc, nI_clamp hk31, q2 k _ (g0_get hk)]
theorem s_ruleText (hR : RR T x m) : SIM T (fX11_ruleText 0 x1 x2 x3 x) (fX12_ruleText 0 x1 x2 x3 m) := by
  obtain ⟨hW, ⟨hs, hd, hP⟩, hms, hM⟩ := hR
  rcases ix x1 6 (by decide) with ⟨box, hb, rfl⟩ | hb
  · have h6 := (hW.2.2.1 box hb).1
    have hL := hP.2.2.2.2.1 box hb
    rcases ix x2 (tR T box).length (by omega) with ⟨i, hi, rfl⟩ | hi
    · have hr : (tR T box)[i]? = some ((tR T box)[i]) := List.getElem?_eq_getElem hi
      generalize (tR T box)[i] = r at hr
      by_cases h0 : (0 : Int32) ≤ x3
      · exact sim (T' := T) hW (x_ruleText_ok hW hs hd hP hb hr h0) (m_ruleText_ok hW hms hM hb hr h0)
      · refine sim (T' := T) (r := -3) hW ?_ ?_
        · show wp (fX11_ruleText 0 (nI box) (nI i) x3 (mk x (uI x) (uJ x) (uAI x) (uAJ x) (uAR x))) _
          unfold fX11_ruleText
          exact oE (hs.1 0 12 rfl) (x_ruleError_ok hs hP.1 hL rfl hb rfl hi) (wp_t rfl (wp_f h0 (wp_some ⟨rfl, hs, hd, hP⟩)))
        · show wp (fX12_ruleText 0 (nI box) (nI i) x3 (mk m (uI m) (uJ m) (uAI m) (uAJ m) (uAR m))) _
          unfold fX12_ruleText
          exact mE hms (m_ruleBarred_ok hms hM.2.2.2.1 rfl hb h6 rfl hi) (wp_t (by decide) (wp_f h0 (wp_some ⟨rfl, hms, hM⟩)))
    · refine sim (T' := T) (r := -2) hW ?_ ?_
      · show wp (fX11_ruleText 0 (nI box) x2 x3 (mk x (uI x) (uJ x) (uAI x) (uAJ x) (uAR x))) _
        unfold fX11_ruleText
        exact oE (hs.1 0 12 rfl) (x_ruleError_r hs hP.1 hL rfl hb hi) (wp_f (by decide) (wp_some ⟨rfl, hs, hd, hP⟩))
      · show wp (fX12_ruleText 0 (nI box) x2 x3 (mk m (uI m) (uJ m) (uAI m) (uAJ m) (uAR m))) _
        unfold fX12_ruleText
        exact mE hms (m_ruleBarred_r hms hM.2.2.2.1 rfl hb h6 hi) (wp_f (by decide) (wp_some ⟨rfl, hms, hM⟩))
  · refine sim (T' := T) (r := -1) hW ?_ ?_
    · show wp (fX11_ruleText 0 x1 x2 x3 (mk x (uI x) (uJ x) (uAI x) (uAJ x) (uAR x))) _
      unfold fX11_ruleText
      exact oE (hs.1 0 12 rfl) (x_ruleError_b hb _) (wp_f (by decide) (wp_some ⟨rfl, hs, hd, hP⟩))
    · show wp (fX12_ruleText 0 x1 x2 x3 (mk m (uI m) (uJ m) (uAI m) (uAJ m) (uAR m))) _
      unfold fX12_ruleText
      exact mE hms (m_ruleBarred_b hb _) (wp_f (by decide) (wp_some ⟨rfl, hms, hM⟩))
end PUB
