/-! cubes of a cover: wcI the care of the cube of a header after i bits, cvK the header of the k-th cube of what is left -/
def clrb (c i : Nat) : Nat := c &&& (2 ^ i ^^^ 31)
theorem clr_I : ∀ c, c < 32 → ∀ i, i < 5 → nI c &&& (nI (2 ^ i) ^^^ (-1)) = nI (clrb c i) := by decide +kernel
def wcI (b : Nat) (A : Nat → Bool) (h : Nat) : Nat → Nat
  | 0 => 2 ^ b - 1
  | i + 1 => if (∀ g, g < 2 ^ b → g &&& clrb (wcI b A h i) i = h &&& clrb (wcI b A h i) i → A g = true) then clrb (wcI b A h i) i else wcI b A h i
theorem wcI_lt (b : Nat) (A : Nat → Bool) (h : Nat) : ∀ i, wcI b A h i < 2 ^ b
  | 0 => by have := Nat.two_pow_pos b; unfold wcI; omega
  | i + 1 => by
    have := wcI_lt b A h i
    unfold wcI
    split
    · exact Nat.lt_of_le_of_lt Nat.and_le_left this
    · exact this
theorem wcI_s (b : Nat) (A : Nat → Bool) (h i : Nat) : wcI b A h (i + 1) = if (∀ g, g < 2 ^ b → g &&& clrb (wcI b A h i) i = h &&& clrb (wcI b A h i) i → A g = true) then clrb (wcI b A h i) i else wcI b A h i := rfl
abbrev wc (b : Nat) (A : Nat → Bool) (h : Nat) : Nat := wcI b A h b
def lsb (L : Nat → Bool) : Option Nat := (List.range 32).find? L
theorem lsb_some {L : Nat → Bool} {h : Nat} (hh : h < 32) (h1 : L h = true) (h2 : ∀ g, g < h → L g = false) : lsb L = some h := by
  unfold lsb
  rw [List.find?_range_eq_some]
  exact ⟨h1, List.mem_range.mpr hh, fun j hj => by simp [h2 j hj]⟩
theorem lsb_none {L : Nat → Bool} (h2 : ∀ g, g < 32 → L g = false) : lsb L = none := by
  unfold lsb
  rw [List.find?_eq_none]
  intro x hx
  simp [h2 x (List.mem_range.mp hx)]
def cvK (b : Nat) (A : Nat → Bool) : Nat → (Nat → Bool) → Option Nat
  | 0, L => lsb L
  | k + 1, L => match lsb L with
    | none => none
    | some h => cvK b A k (fun g => L g && !decide (g &&& wc b A h = h &&& wc b A h))
theorem cvK_none {b : Nat} {A L : Nat → Bool} (h : lsb L = none) : ∀ k, cvK b A k L = none
  | 0 => h
  | k + 1 => by unfold cvK; rw [h]
theorem cvK_s {b : Nat} {A L : Nat → Bool} {h k n : Nat} (hl : lsb L = some h) (hn : n < k) : cvK b A (k - n) L = cvK b A (k - (n + 1)) (fun g => L g && !decide (g &&& wc b A h = h &&& wc b A h)) := by
  rw [show k - n = (k - (n + 1)) + 1 by omega]
  show (match lsb L with | none => none | some h => _) = _
  rw [hl]
def cvA (b : Nat) (A : Nat → Bool) (what : Int32) (o : Option Nat) : Int32 := match o with
  | none => -6
  | some h => if what = 0 then nI (wc b A h) else nI (h &&& wc b A h)
theorem tb_diffB (x y : Int64) (g : Nat) : tb (x &&& (y ^^^ (-1))) g = (tb x g && !tb y g) := by
  rcases Nat.lt_or_ge g 64 with h | h
  · rw [tb_and, tb_not _ h]
  · rw [tb_big h, tb_big h]; rfl
/-- what is left when a cube is taken away -/
theorem left_eq {b : Nat} {left y : Int64} {c h : Nat} (hr : ∀ g, tb left g = true → g < 2 ^ b) (hy : ∀ g, g < 2 ^ b → tb y g = decide (g &&& c = h &&& c)) : tb (left &&& (y ^^^ (-1))) = fun g => tb left g && !decide (g &&& c = h &&& c) := by
  funext g
  rw [tb_diffB]
  cases hl : tb left g with
  | false => rfl
  | true => rw [hy g (hr g hl)]
section
variable {b : UH} {fi : Nat → Nat → Nat → Int32} {fj : Nat → Nat → Nat → Int64} {ai : Nat → Nat → Int32} {aj : Nat → Nat → Int64} {ar : Nat → Nat → Option Nat} {T : TS} {x1 x2 x3 x4 : Int32} {i j p t h : Nat} {s : Int64}
theorem wc_test {b c h : Nat} {y s : Int64} (hb : BW b) (hy : ∀ g, g < 64 → tb y g = (decide (g < 2 ^ b) && decide (g &&& c = h &&& c))) : y &&& (s ^^^ (-1)) = 0 ↔ ∀ g, g < 2 ^ b → g &&& c = h &&& c → tb s g = true := by
  have hp2 := (pow_b hb).2
  constructor
  · intro H g hg e
    cases hq : tb s g with
    | true => rfl
    | false =>
      have : tb (y &&& (s ^^^ (-1))) g = true := (tb_diff _ _ _).mpr ⟨by rw [hy g (by omega)]; simp [hg, e], hq⟩
      rw [H, tb_0] at this; cases this
  · intro H
    refine tb_zero.mpr (fun g hg => ?_)
    cases hq : tb (y &&& (s ^^^ (-1))) g with
    | false => rfl
    | true =>
      obtain ⟨h1, h2⟩ := (tb_diff _ _ _).mp hq
      rw [hy g hg, Bool.and_eq_true, decide_eq_true_eq, decide_eq_true_eq] at h1
      rw [H g h1.1 h1.2] at h2; cases h2
theorem x_widestCare {bits : Nat} (hs : xst b) (hb : fi 4 0 1 = nI bits) (hbw : BW bits) (h1 : x1 = nI h) (hh : h < 32) : fX11_widestCare 0 x1 s (mk b fi fj ai aj ar) = some (nI (wc bits (tb s) h)) := by
  have hp2 := (pow_b hbw).2
  have hp3 := Nat.two_pow_pos bits
  have hb5 := hbw.2
  refine of_wp ?_
  unfold fX11_widestCare
  refine oR (hs.1 0 12 rfl) (hs.2.2 11 0 0 1 rfl) (oi (hs.1 1 5 rfl) (wp_lt ?_))
  rw [hb, jsl_1 (by omega), nI_dec hp3]
  refine wp_obw (Q := fun q => q = nI (wc bits (tb s) h)) ?_ (fun q hq => wp_some hq)
  refine it2_up2F (show (0 : Int32) = nI 0 from rfl) bits (by omega) (fun i q => q = nI (wcI bits (tb s) h i)) (fun k i q hi hI hk => ?_) (Nat.zero_le _) rfl
  subst hI
  unfold fX11_widestCare_B16
  refine oR (hs.1 0 12 rfl) (hs.2.2 11 0 0 1 rfl) (oi (hs.1 1 5 rfl) (wp_le hb rfl (by omega) (by omega) (fun hc => wp_some ?_) (fun hc => wp_lt ?_)))
  · have : i = bits := by omega
    subst this; rfl
  have hw := wcI_lt bits (tb s) h i
  rw [jsl_1 (by omega), clr_I _ (by omega) i (by omega)]
  refine oR (hs.1 0 12 rfl) (hs.2.2 11 0 0 1 rfl) (oKw (hs.1 1 5 rfl) (x_allHeaders hs hb hbw) (fun s1 e1 => ?_))
  have hcl : clrb (wcI bits (tb s) h i) i < 32 := Nat.lt_of_le_of_lt Nat.and_le_left (by omega)
  refine wp_obw (x_cubeHeaders _ rfl h1 hcl hh) (fun s2 e2 => wp_lt ?_)
  have hy : ∀ g, g < 64 → tb (s1 &&& s2) g = (decide (g < 2 ^ bits) && decide (g &&& clrb (wcI bits (tb s) h i) i = h &&& clrb (wcI bits (tb s) h i) i)) := fun g hg => by
    rw [tb_and, e1 g hg, e2 g hg]
    by_cases hg2 : g < 2 ^ bits
    · simp [hg2, show g < 32 by omega]
    · simp [hg2]
  refine wp_if (fun H => hk hc _ _ (nI_1 i) ?_) (fun H => hk hc _ _ (nI_1 i) ?_)
  · rw [wcI_s, if_pos ((wc_test hbw hy).mp H)]
  · rw [wcI_s, if_neg (fun z => H ((wc_test hbw hy).mpr z))]
theorem m_care {bits : Nat} (hs : mst b) (hb : fi 12 0 0 = nI bits) (hbw : BW bits) (hh : h < 32) : it2 (fX12_cube_B89 0 s (nI h) (mk b fi fj ai aj ar)) FUEL (nI (2 ^ bits - 1)) 0 = some (nI (wc bits (tb s) h)) := by
  have hp2 := (pow_b hbw).2
  have hp3 := Nat.two_pow_pos bits
  have hb5 := hbw.2
  refine of_wp ?_
  refine it2_up2F (show (0 : Int32) = nI 0 from rfl) bits (by omega) (fun i q => q = nI (wcI bits (tb s) h i)) (fun k i q hi hI hk => ?_) (Nat.zero_le _) rfl
  subst hI
  unfold fX12_cube_B89
  refine mI hs (wp_le hb rfl (by omega) (by omega) (fun hc => wp_some ?_) (fun hc => ?_))
  · have : i = bits := by omega
    subst this; rfl
  have hw := wcI_lt bits (tb s) h i
  rw [jsl_1 (by omega), clr_I _ (by omega) i (by omega)]
  have hcl : clrb (wcI bits (tb s) h i) i < 32 := Nat.lt_of_le_of_lt Nat.and_le_left (by omega)
  refine mKw hs (m_cubeOf hs hb hbw rfl rfl hcl hh) (fun y hy => ?_)
  refine wp_if (fun H => wp_lt (hk hc _ _ (nI_1 i) ?_)) (fun H => hk hc _ _ (nI_1 i) ?_)
  · rw [wcI_s, if_pos ((wc_test hbw hy).mp H)]
  · rw [wcI_s, if_neg (fun z => H ((wc_test hbw hy).mpr z))]
theorem cl_self {left : Int64} {f : Nat → Bool} {c h : Nat} (e : f = fun g => tb left g && !decide (g &&& c = h &&& c)) : f h = false := by rw [e]; simp
theorem x_cubeLoop {bits k : Nat} (hs : xst b) (hb : fi 4 0 1 = nI bits) (hbw : BW bits) (hk31 : k < 2 ^ 31) (hr : ∀ g, tb s g = true → g < 2 ^ bits) : wp (it3 (fX11_cube_B68 0 (nI k) x4 s (mk b fi fj ai aj ar)) FUEL s 0 0) (fun q => match q with | .inl _ => cvK bits (tb s) k (tb s) = none | .inr z => ∃ h, cvK bits (tb s) k (tb s) = some h ∧ z = (cvA bits (tb s) x4 (some h), (mk b fi fj ai aj ar))) := by
  have hp2 := (pow_b hbw).2
  refine it3_up3F (show (0 : Int32) = nI 0 from rfl) 32 (by decide) (fun i left z => ∃ n, z = nI n ∧ n ≤ i ∧ n ≤ k ∧ (∀ g, tb left g = true → g < 2 ^ bits ∧ i ≤ g) ∧ cvK bits (tb s) (k - n) (tb left) = cvK bits (tb s) k (tb s)) (fun kk i left z hi hI hk => ?_) (Nat.zero_le _) ⟨0, rfl, Nat.zero_le _, Nat.zero_le _, fun g hg => ⟨hr g hg, Nat.zero_le _⟩, rfl⟩
  obtain ⟨n, rfl, hn, hnk, hl, he⟩ := hI
  have low : ∀ g, g < i → tb left g = false := fun g hg => by
    cases hq : tb left g with
    | false => rfl
    | true => have := (hl g hq).2; omega
  unfold fX11_cube_B68
  refine wp_le (a := 32) rfl rfl (by decide) (by omega) (fun hc => wp_some ?_) (fun hc => ?_)
  · show cvK bits (tb s) k (tb s) = none
    rw [← he]
    exact cvK_none (lsb_none (fun g hg => low g (by omega))) _
  refine wp_obe (x_hasHeader _ rfl (by omega)) ?_
  cases hq : tb left i with
  | false =>
    refine wp_t rfl (hk hc _ _ _ (nI_1 i) ⟨n, rfl, by omega, hnk, fun g hg => ⟨(hl g hg).1, ?_⟩, he⟩)
    have := (hl g hg).2
    have : g ≠ i := fun e => by rw [e, hq] at hg; cases hg
    omega
  | true =>
    have hls : lsb (tb left) = some i := lsb_some hc hq low
    refine wp_f (by decide) (oE (hs.1 0 12 rfl) (x_widestCare hs hb hbw rfl (by omega)) ?_)
    refine wp_eqq rfl rfl (by omega) hk31 (fun e => ?_) (fun e => ?_)
    · have hc0 : cvK bits (tb s) k (tb s) = some i := by rw [← he, e, Nat.sub_self]; exact hls
      refine wp_if (fun h0 => wp_some ⟨i, hc0, ?_⟩) (fun h0 => wp_some ⟨i, hc0, ?_⟩)
      · show (nI (wc bits (tb s) i), _) = (if x4 = 0 then _ else _, _)
        rw [if_pos h0]
      · show (nI i &&& nI (wc bits (tb s) i), _) = (if x4 = 0 then _ else _, _)
        rw [if_neg h0, nx_and]
    · have hw : wc bits (tb s) i < 2 ^ bits := wcI_lt bits (tb s) i bits
      refine wp_obw (x_cubeHeaders _ rfl rfl (by omega) (by omega)) (fun y hy => wp_lt ?_)
      have hf := left_eq (b := bits) (left := left) (y := y) (c := wc bits (tb s) i) (h := i) (fun g hg => (hl g hg).1) (fun g hg => by rw [hy g (by omega)]; simp [show g < 32 by omega])
      refine hk hc _ _ _ (nI_1 i) ⟨n + 1, nI_1 n, by omega, by omega, fun g hg => ?_, ?_⟩
      · have hg2 := ((tb_diff _ _ _).mp hg).1
        refine ⟨(hl g hg2).1, ?_⟩
        have h3 := (hl g hg2).2
        have : g ≠ i := fun e => by rw [e, cl_self hf] at hg; cases hg
        omega
      · rw [hf, ← he, cvK_s hls (by omega)]
theorem m_cubeLoop {bits k : Nat} (hs : mst b) (hb : fi 12 0 0 = nI bits) (hbw : BW bits) (hk31 : k < 2 ^ 31) (hr : ∀ g, tb s g = true → g < 2 ^ bits) : wp (it2 (fX12_cube_B50 0 (nI k) x4 s (mk b fi fj ai aj ar)) FUEL s 0) (fun q => match q with | .inl _ => cvK bits (tb s) k (tb s) = none | .inr z => ∃ h, cvK bits (tb s) k (tb s) = some h ∧ z = (cvA bits (tb s) x4 (some h), (mk b fi fj ai aj ar))) := by
  have hp2 := (pow_b hbw).2
  refine it2_rule (I := fun left z => ∃ n, z = nI n ∧ n ≤ k ∧ n + fb_ct (tb left) 32 ≤ 32 ∧ (∀ g, tb left g = true → g < 2 ^ bits) ∧ cvK bits (tb s) (k - n) (tb left) = cvK bits (tb s) k (tb s)) (μ := fun left z => fb_ct (tb left) 32) _ (fun kk left z hI hk => ?_) _ _ _ ⟨0, rfl, Nat.zero_le _, by have := fb_ct_le (tb s) 32; omega, hr, rfl⟩ (by have := fb_ct_le (tb s) 32; unfold FUEL; omega)
  obtain ⟨n, rfl, hnk, hn, hl, he⟩ := hI
  show wp (fX12_cube_B50 0 (nI k) x4 s (mk b fi fj ai aj ar) kk left (nI n)) _
  unfold fX12_cube_B50
  refine wp_if (fun h0 => wp_some ?_) (fun h0 => ?_)
  · show cvK bits (tb s) k (tb s) = none
    rw [← he, h0]
    exact cvK_none (lsb_none (fun g hg => tb_0 g)) _
  obtain ⟨g0, hg0, ht0⟩ := tb_nz h0
  have hg32 := hl g0 ht0
  refine wp_obw (Q := fun q => ∃ i, q = nI i ∧ i < 32 ∧ tb left i = true ∧ ∀ g, g < i → tb left g = false) ?_ (fun q hq => ?_)
  · refine it1_up1F (show (0 : Int32) = nI 0 from rfl) g0 (by omega) (fun i => ∀ g, g < i → tb left g = false) (fun k2 i hi hI hk2 => ?_) (Nat.zero_le _) (fun g hg => absurd hg (Nat.not_lt_zero _))
    unfold fX12_cube_B60
    refine wp_tb0 rfl (by omega) (fun hf => hk2 ?_ _ (nI_1 i) (fun g hg => ?_)) (fun ht => wp_some ⟨i, rfl, by omega, ht, hI⟩)
    · have : i ≠ g0 := fun e => by rw [e, ht0] at hf; cases hf
      omega
    · rcases Nat.lt_or_ge g i with h1 | h1
      · exact hI g h1
      · have : g = i := by omega
        subst this; exact hf
  obtain ⟨i, rfl, hi, hti, low⟩ := hq
  have hls : lsb (tb left) = some i := lsb_some hi hti low
  have hp3 := Nat.two_pow_pos bits
  refine mE hs (m_headers hs hb hbw) (wp_lt ?_)
  rw [nI_dec hp3]
  refine wp_obe (m_care hs hb hbw hi) ?_
  refine wp_eqq rfl rfl (by omega) hk31 (fun e => ?_) (fun e => ?_)
  · have hc0 : cvK bits (tb s) k (tb s) = some i := by rw [← he, e, Nat.sub_self]; exact hls
    refine wp_if (fun h0 => wp_some ⟨i, hc0, ?_⟩) (fun h0 => wp_some ⟨i, hc0, ?_⟩)
    · show (nI (wc bits (tb s) i), _) = (if x4 = 0 then _ else _, _)
      rw [if_pos h0]
    · show (nI i &&& nI (wc bits (tb s) i), _) = (if x4 = 0 then _ else _, _)
      rw [if_neg h0, nx_and]
  · have hw : wc bits (tb s) i < 2 ^ bits := wcI_lt bits (tb s) i bits
    refine mKw hs (m_cubeOf hs hb hbw rfl rfl (by omega) hi) (fun y hy => wp_lt ?_)
    have hf := left_eq (b := bits) (left := left) (y := y) (c := wc bits (tb s) i) (h := i) hl (fun g hg => by rw [hy g (by omega)]; simp [hg])
    have hlt : fb_ct (tb (left &&& (y ^^^ -1))) 32 < fb_ct (tb left) 32 := ct_lt (fun g _ hg => ((tb_diff _ _ _).mp hg).1) hi (cl_self hf) hti
    refine hk _ _ ⟨n + 1, nI_1 n, by omega, by omega, fun g hg => hl g ((tb_diff _ _ _).mp hg).1, ?_⟩ hlt
    rw [hf, ← he, cvK_s hls (by omega)]
end
section PUB
variable {T : TS} {x m : UH} {x1 x2 x3 x4 x5 x6 : Int32}
theorem s_cube (hR : RR T x m) : SIM T (fX11_cube 0 x1 x2 x3 x4 x) (fX12_cube 0 x1 x2 x3 x4 m) := by
  obtain ⟨hW, ⟨hs, hd, hP⟩, hms, hM⟩ := hR
  rcases pl_or x1 x2 with ⟨i, j, hi, hj, rfl, rfl⟩ | hb
  · have hp : 4 * i + j < 24 := by omega
    by_cases h3 : x3 < 0
    · refine sim (T' := T) (r := -3) hW ?_ ?_
      · unfold fX11_cube
        exact wp_obe (x_isPlace_ok _ rfl rfl hi hj) (wp_f (by decide) (wp_t h3 (wp_some ⟨rfl, hs, hd, hP⟩)))
      · unfold fX12_cube
        exact wp_obe (m_noPlace_ok _ rfl rfl hi hj) (wp_t rfl (wp_t h3 (wp_some ⟨rfl, hms, hM⟩)))
    · obtain ⟨k, hk31, rfl⟩ : ∃ k, k < 2 ^ 31 ∧ x3 = nI k := nI_of h3
      rcases ix x4 2 (by decide) with ⟨w, hw, rfl⟩ | hb4
      · obtain ⟨aj1, e1, hA⟩ := x_spreadAll hW hs hP
        have hr1 : ∀ g, tb (aj1 46 (4 * i + j)) g = true → g < 2 ^ tB T := fun g hg => (Arr.rg hW _ _ ((hA _ hp g).mp hg)).2
        refine sim (T' := T) (r := cvA (tB T) (tb (aj1 46 (4 * i + j))) (nI w) (cvK (tB T) (tb (aj1 46 (4 * i + j))) k (tb (aj1 46 (4 * i + j))))) hW ?_ ?_
        · show wp (fX11_cube 0 (nI i) (nI j) (nI k) (nI w) (mk x (uI x) (uJ x) (uAI x) (uAJ x) (uAR x))) _
          unfold fX11_cube
          refine wp_obe (x_isPlace_ok _ rfl rfl hi hj) (wp_f (by decide) (wp_f h3 (wp_f (nI_pos (by omega)) (wp_t (nI_le (show w ≤ 1 by omega) (by decide)) ?_))))
          refine oR (hs.1 0 12 rfl) (hs.2.2 11 2 0 45 rfl) (oi (hs.1 0 12 rfl) (oJ (hs.1 0 12 rfl) (oE (hs.1 45 3 rfl) e1 ?_)))
          refine oR (hs.1 0 12 rfl) (hs.2.2 11 2 0 45 rfl) (oR (hs.1 45 3 rfl) (hs.2.2 2 1 45 46 rfl) (wp_obe (x_placeOf _ rfl rfl) (oLJ (hs.1 46 21 rfl) (hs.2.1 46 24 rfl) rfl hp (by decide) ?_)))
          refine wp_oew (x_cubeLoop hs hP.2.1 hW.1 hk31 hr1) (fun _ hq => wp_some ⟨?_, XR_mk hs hd hP⟩) (fun z hq => ?_)
          · have hq' : cvK _ _ _ _ = none := hq
            rw [hq']; rfl
          · obtain ⟨h, hq, rfl⟩ := hq
            exact wp_some ⟨by rw [hq], XR_mk hs hd hP⟩
        · show wp (fX12_cube 0 (nI i) (nI j) (nI k) (nI w) (mk m (uI m) (uJ m) (uAI m) (uAJ m) (uAR m))) _
          unfold fX12_cube
          refine wp_obe (m_noPlace_ok _ rfl rfl hi hj) (wp_t rfl (wp_f h3 (wp_obe (m_in_ok _ rfl rfl (show (1 : Int32) = nI 2 - 1 from rfl) hw (by decide)) (wp_f (by decide) (mKw hms (m_spreadAll hW hms hM) (fun u hu => ?_))))))
          obtain ⟨aj2, rfl, h5, _⟩ := hu
          rw [pl1]
          have hse : aj2 5 (4 * i + j) = aj1 46 (4 * i + j) := set_eq (h5 _ hp) (hA _ hp)
          refine mR hms rfl (mLJ hms rfl rfl (by decide) rfl hp ?_)
          rw [hse]
          refine wp_oew (m_cubeLoop hms hM.1 hW.1 hk31 hr1) (fun _ hq => wp_some ⟨?_, MR_mk hms hM⟩) (fun z hq => ?_)
          · have hq' : cvK _ _ _ _ = none := hq
            rw [hq']; rfl
          · obtain ⟨h, hq, rfl⟩ := hq
            exact wp_some ⟨by rw [hq], MR_mk hms hM⟩
      · refine sim (T' := T) (r := -3) hW ?_ ?_
        · unfold fX11_cube
          refine wp_obe (x_isPlace_ok _ rfl rfl hi hj) (wp_f (by decide) (wp_f h3 (wp_if (fun _ => wp_some ⟨rfl, hs, hd, hP⟩) (fun h0 => wp_f ?_ (wp_some ⟨rfl, hs, hd, hP⟩)))))
          intro hle
          have := bad_lt0 (by decide) hb4 h0
          exact absurd (Int32.le_trans this hle) (by decide)
        · unfold fX12_cube
          exact wp_obe (m_noPlace_ok _ rfl rfl hi hj) (wp_t rfl (wp_f h3 (wp_obe (m_in_bad _ hb4 rfl (show (1 : Int32) = nI 2 - 1 from rfl) (by decide)) (wp_t rfl (wp_some ⟨rfl, hms, hM⟩)))))
  · refine sim (T' := T) (r := -1) hW ?_ ?_
    · unfold fX11_cube
      exact wp_obe (x_isPlace_bad _ hb) (wp_t rfl (wp_some ⟨rfl, hs, hd, hP⟩))
    · unfold fX12_cube
      exact wp_obe (m_noPlace_bad _ hb) (wp_f (by decide) (wp_some ⟨rfl, hms, hM⟩))
end PUB
