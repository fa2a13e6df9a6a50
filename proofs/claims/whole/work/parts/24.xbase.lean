/-! THE CLASS: object 0 (class 11); 1 Net, 2 far, 3 boxes; 5 + 2 j the list of box j, 6 + 2 j its row (j < 6); 17 History, 18 lists, 19 boxes, 21 + 2 j and 22 + 2 j its lists and their rows (j < 12); 45 Flow, 46 arrived, 47 fresh, 48 coming; 49 Fates, 50 found; 51 Walk, 52 seen; 53 Cuts, 54 members, 55 withoutOne, 56 withoutTwo, 57 queue, 58 wayHere, 59 seen; 60 Text, 61 characters; 62 RuleWriter, 63 characters; 64 policies, 65 + j the policies -/
def xKd (a : Nat) : Option Nat := ([12, 5, 20, 26, 7, 8, 25, 8, 25, 8, 25, 8, 25, 8, 25, 8, 25, 4, 26, 20, 7, 8, 25, 8, 25, 8, 25, 8, 25, 8, 25, 8, 25, 8, 25, 8, 25, 8, 25, 8, 25, 8, 25, 8, 25, 3, 21, 21, 21, 2, 21, 11, 21, 1, 20, 21, 21, 20, 21, 21, 10, 22, 9, 22, 24, 6, 6, 6, 6, 6, 6, 6, 6] : List Nat)[a]?
def xLn (a : Nat) : Option Nat := match a with
  | 2 => some 24 | 3 => some 6 | 18 => some 12 | 19 => some 12 | 46 => some 24 | 47 => some 24 | 48 => some 24 | 50 => some 24 | 52 => some 24
  | 54 => some 3 | 55 => some 36 | 56 => some 1296 | 57 => some 768 | 58 => some 768 | 59 => some 24 | 61 => some 40 | 63 => some 40 | 64 => some 8
  | a => if (6 ≤ a ∧ a ≤ 16 ∧ a % 2 = 0) ∨ (22 ≤ a ∧ a ≤ 44 ∧ a % 2 = 0) then some 6 else none
def xRf (c k a : Nat) : Option Nat := match c, k, a with
  | 11, 0, 0 => some 1 | 11, 1, 0 => some 17 | 11, 2, 0 => some 45 | 11, 3, 0 => some 49 | 11, 4, 0 => some 51 | 11, 5, 0 => some 53 | 11, 6, 0 => some 60 | 11, 7, 0 => some 62 | 11, 8, 0 => some 64
  | 4, 2, 1 => some 2 | 4, 3, 1 => some 3
  | 3, 0, 17 => some 18 | 3, 1, 17 => some 19
  | 2, 0, 45 => some 1 | 2, 1, 45 => some 46 | 2, 2, 45 => some 47 | 2, 3, 45 => some 48
  | 1, 0, 49 => some 1 | 1, 1, 49 => some 50
  | 10, 0, 51 => some 1 | 10, 1, 51 => some 52
  | 0, 0, 53 => some 1 | 0, 1, 53 => some 54 | 0, 2, 53 => some 55 | 0, 3, 53 => some 56 | 0, 4, 53 => some 57 | 0, 5, 53 => some 58 | 0, 6, 53 => some 59
  | 9, 0, 60 => some 61 | 8, 0, 62 => some 63
  | 7, 0, a => if (5 ≤ a ∧ a ≤ 15 ∧ a % 2 = 1) ∨ (21 ≤ a ∧ a ≤ 43 ∧ a % 2 = 1) then some (a + 1) else none
  | _, _, _ => none
def xst (b : UH) : Prop := (∀ a t, xKd a = some t → uKd b a = t) ∧ (∀ a n, xLn a = some n → uLn b a = n) ∧ ∀ c k a q, xRf c k a = some q → uR b c k a = some q
/-- the rows of references that stay -/
def xar (ar : Nat → Nat → Option Nat) : Prop := (∀ j, j < 6 → ar 3 j = some (5 + 2 * j)) ∧ (∀ j, j < 12 → ar 18 j = some (21 + 2 * j)) ∧ ∀ j, j < 8 → ar 64 j = some (65 + j)
section OW
variable {b : UH} {fi : Nat → Nat → Nat → Int32} {fj : Nat → Nat → Nat → Int64} {ai : Nat → Nat → Int32} {aj : Nat → Nat → Int64} {ar : Nat → Nat → Option Nat} {c k a t n i : Nat} {α β γ : Type} {P : β → Prop} {x v : Int32}
theorem oR {q : Nat} {K : Nat → Option β} (hk : uKd b a = c + 1) (hq : uR b c k a = some q) (h : wp (K q) P) : wp (ob (rR (mk b fi fj ai aj ar) c k a) K) P := wp_ob (wp_rR hk hq h)
theorem oi {K : Int32 → Option β} (hk : uKd b a = c + 1) (h : wp (K (fi c k a)) P) : wp (ob (rI (mk b fi fj ai aj ar) c k a) K) P := wp_ob (wp_rI hk h)
theorem oJ {K : Int64 → Option β} (hk : uKd b a = c + 1) (h : wp (K (fj c k a)) P) : wp (ob (rJ (mk b fi fj ai aj ar) c k a) K) P := wp_ob (wp_rJ hk h)
theorem oW {K : UH → Option β} (hk : uKd b a = c + 1) (h : wp (K (mk b (up3 fi c k a v) fj ai aj ar)) P) : wp (ob (wI (mk b fi fj ai aj ar) c k a v) K) P := wp_ob (wp_wI hk h)
theorem oWZ {K : UH → Option β} (hk : uKd b a = c + 1) (hv : v = 0 ∨ v = 1) (h : wp (K (mk b (up3 fi c k a v) fj ai aj ar)) P) : wp (ob (wZ (mk b fi fj ai aj ar) c k a v) K) P := wp_ob (wp_wZ hk hv h)
theorem oWJ {w : Int64} {K : UH → Option β} (hk : uKd b a = c + 1) (h : wp (K (mk b fi (up3 fj c k a w) ai aj ar)) P) : wp (ob (wJ (mk b fi fj ai aj ar) c k a w) K) P := wp_ob (wp_wJ hk h)
theorem oL {K : Int32 → Option β} (hk : uKd b a = t) (hn : uLn b a = n) (hx : x = nI i) (hi : i < n) (h2 : n < 2 ^ 31) (h : wp (K (ai a i)) P) : wp (ob (ldI (mk b fi fj ai aj ar) t a x) K) P := wp_ob (wp_ldI hk hn hx hi h2 h)
theorem oLJ {K : Int64 → Option β} (hk : uKd b a = 21) (hn : uLn b a = n) (hx : x = nI i) (hi : i < n) (h2 : n < 2 ^ 31) (h : wp (K (aj a i)) P) : wp (ob (ldJ (mk b fi fj ai aj ar) a x) K) P := wp_ob (wp_ldJ hk hn hx hi h2 h)
theorem oLR {q : Nat} {K : Nat → Option β} (hk : uKd b a = t) (hn : uLn b a = n) (hx : x = nI i) (hi : i < n) (h2 : n < 2 ^ 31) (hq : ar a i = some q) (h : wp (K q) P) : wp (ob (ldR (mk b fi fj ai aj ar) t a x) K) P := wp_ob (wp_ldR hk hn hx hi h2 hq h)
theorem oS {K : UH → Option β} (hk : uKd b a = 20) (hn : uLn b a = n) (hx : x = nI i) (hi : i < n) (h2 : n < 2 ^ 31) (h : wp (K (mk b fi fj (up2 ai a i v) aj ar)) P) : wp (ob (stI (mk b fi fj ai aj ar) a x v) K) P := wp_ob (wp_stI hk hn hx hi h2 h)
theorem oSC {K : UH → Option β} (hk : uKd b a = 22) (hn : uLn b a = n) (hx : x = nI i) (hi : i < n) (h2 : n < 2 ^ 31) (h : wp (K (mk b fi fj (up2 ai a i (vp_nar .char v)) aj ar)) P) : wp (ob (stC (mk b fi fj ai aj ar) a x v) K) P := wp_ob (wp_stC hk hn hx hi h2 h)
theorem oSJ {w : Int64} {K : UH → Option β} (hk : uKd b a = 21) (hn : uLn b a = n) (hx : x = nI i) (hi : i < n) (h2 : n < 2 ^ 31) (h : wp (K (mk b fi fj ai (up2 aj a i w) ar)) P) : wp (ob (stJ (mk b fi fj ai aj ar) a x w) K) P := wp_ob (wp_stJ hk hn hx hi h2 h)
theorem oSR {q : Nat} {K : UH → Option β} (hk : uKd b a = t) (hq : uKd b q = c + 1) (hn : uLn b a = n) (hx : x = nI i) (hi : i < n) (h2 : n < 2 ^ 31) (h : wp (K (mk b fi fj ai aj (up2 ar a i (some q)))) P) : wp (ob (stR (mk b fi fj ai aj ar) t c a x q) K) P := wp_ob (wp_stR hk hq hn hx hi h2 h)
theorem oLen {K : Int32 → Option β} (hk : uKd b a = t) (hn : uLn b a = n) (h : wp (K (nI n)) P) : wp (ob (lnA (mk b fi fj ai aj ar) t a) K) P := wp_ob (wp_lnA hk hn h)
theorem oE {y : Option α} {z : α} {K : α → Option β} (hk : uKd b a = c + 1) (hy : y = some z) (h : wp (K z) P) : wp (ob (kd (mk b fi fj ai aj ar) c a y) K) P := wp_ob (wp_kd hk ⟨z, hy, h⟩)
theorem oKw {y : Option α} {Q : α → Prop} {K : α → Option β} (hk : uKd b a = c + 1) (hy : wp y Q) (h : ∀ z, Q z → wp (K z) P) : wp (ob (kd (mk b fi fj ai aj ar) c a y) K) P := wp_ob (wp_kd hk (wp_mono hy h))
theorem oK2 {y : Option (α × γ)} {Q : α × γ → Prop} {K : α → γ → Option β} (hk : uKd b a = c + 1) (hy : wp y Q) (h : ∀ z w, Q (z, w) → wp (K z w) P) : wp (ob2 (kd (mk b fi fj ai aj ar) c a y) K) P := wp_ob2 (wp_kd hk (wp_mono hy (fun q hq => h q.1 q.2 hq)))
theorem oWB {K : Int64 → Option β} (hx : x = nI i) (hi : i < 5) (h : wp (K (uWB i)) P) : wp (ob (rWB x) K) P := wp_ob (wp_rWB hx hi h)
end OW
theorem wp_bit {α : Type} {A B : Option α} {P : α → Prop} {x y : Int32} {m n : Nat} (hx : x = nI m) (hy : y = nI n) (hm : m < 2 ^ 31) (hn : n < 32) (h1 : m.testBit n = false → wp A P) (h2 : m.testBit n = true → wp B P) : wp (if (jsr x y) &&& (1 : Int32) = (0 : Int32) then A else B) P := by
  subst hx; subst hy
  rw [jsr_bit hm hn]
  refine wp_eqq rfl (show (0 : Int32) = nI 0 from rfl) (by split <;> decide) (by decide) (fun h => h1 ?_) (fun h => h2 ?_)
  · cases hq : m.testBit n with
    | false => rfl
    | true => rw [hq] at h; cases h
  · cases hq : m.testBit n with
    | false => rw [hq] at h; exact absurd rfl h
    | true => rfl
theorem wp_bit1 {α : Type} {A B : Option α} {P : α → Prop} {x y : Int32} {m n : Nat} (hx : x = nI m) (hy : y = nI n) (hm : m < 2 ^ 31) (hn : n < 32) (h1 : m.testBit n = true → wp A P) (h2 : m.testBit n = false → wp B P) : wp (if (jsr x y) &&& (1 : Int32) = (1 : Int32) then A else B) P := by
  subst hx; subst hy
  rw [jsr_bit hm hn]
  refine wp_eqq rfl (show (1 : Int32) = nI 1 from rfl) (by split <;> decide) (by decide) (fun h => h1 ?_) (fun h => h2 ?_)
  · cases hq : m.testBit n with
    | false => rw [hq] at h; cases h
    | true => rfl
  · cases hq : m.testBit n with
    | false => rfl
    | true => rw [hq] at h; exact absurd rfl h
theorem wp_tb1 {α : Type} {A B : Option α} {P : α → Prop} {s : Int64} {x : Int32} {n : Nat} (hx : x = nI n) (hn : n < 64) (h1 : tb s n = true → wp A P) (h2 : tb s n = false → wp B P) : wp (if (jlsr s x) &&& (1 : Int64) = (1 : Int64) then A else B) P := by
  subst hx
  refine wp_if (fun h => h1 ((lsr_1 s hn).mp h)) (fun h => h2 ?_)
  cases hq : tb s n with
  | false => rfl
  | true => exact absurd ((lsr_1 s hn).mpr hq) h
theorem wp_tb0 {α : Type} {A B : Option α} {P : α → Prop} {s : Int64} {x : Int32} {n : Nat} (hx : x = nI n) (hn : n < 64) (h1 : tb s n = false → wp A P) (h2 : tb s n = true → wp B P) : wp (if (jlsr s x) &&& (1 : Int64) = (0 : Int64) then A else B) P := by
  subst hx
  refine wp_if (fun h => h1 ((lsr_0 s hn).mp h)) (fun h => h2 ?_)
  cases hq : tb s n with
  | true => rfl
  | false => exact absurd ((lsr_0 s hn).mpr hq) h
theorem wp_ub0 {α : Type} {A B : Option α} {P : α → Prop} {s : Int64} {x : Int32} {n : Nat} (hx : x = nI n) (hn : n < 64) (h1 : tb s n = false → wp A P) (h2 : tb s n = true → wp B P) : wp (if (jlur s x) &&& (1 : Int64) = (0 : Int64) then A else B) P := by
  subst hx
  refine wp_if (fun h => h1 ((lur_0 s hn).mp h)) (fun h => h2 ?_)
  cases hq : tb s n with
  | true => rfl
  | false => exact absurd ((lur_0 s hn).mpr hq) h
/-! tests -/
theorem x_isBox_ok {x : Int32} {i : Nat} (u : UH) (hx : x = nI i) (h : i < 6) : fX11_isBox x u = some 1 := by
  refine of_wp ?_
  unfold fX11_isBox
  rw [hx]
  exact wp_f (nI_pos (by omega)) (wp_f (nI_ge h (by decide)) (wp_some rfl))
theorem x_isBox_bad {x : Int32} (u : UH) (hx : bad x 6) : fX11_isBox x u = some 0 := by
  refine of_wp ?_
  unfold fX11_isBox
  rcases hx with h | h
  · exact wp_t h (wp_some rfl)
  · refine wp_if (fun _ => wp_some rfl) (fun _ => wp_t h (wp_some rfl))
theorem x_isPlace_ok {x y : Int32} {i j : Nat} (u : UH) (hx : x = nI i) (hy : y = nI j) (h : i < 6) (h2 : j < 4) : fX11_isPlace x y u = some 1 := by
  refine of_wp ?_
  unfold fX11_isPlace
  refine wp_obe (x_isBox_ok u hx h) (wp_f (by decide) ?_)
  rw [hy]
  exact wp_f (nI_pos (by omega)) (wp_f (nI_ge h2 (by decide)) (wp_some rfl))
theorem x_isPlace_bad {x y : Int32} (u : UH) (h : bad x 6 ∨ bad y 4) : fX11_isPlace x y u = some 0 := by
  refine of_wp ?_
  unfold fX11_isPlace
  rcases ix x 6 (by decide) with ⟨i, hi, hx⟩ | hx
  · rcases h with h | h
    · exact wp_obe (x_isBox_bad u h) (wp_t rfl (wp_some rfl))
    · refine wp_obe (x_isBox_ok u hx hi) (wp_f (by decide) ?_)
      rcases h with h | h
      · exact wp_t h (wp_some rfl)
      · refine wp_if (fun _ => wp_some rfl) (fun _ => wp_t h (wp_some rfl))
  · exact wp_obe (x_isBox_bad u hx) (wp_t rfl (wp_some rfl))
theorem x_placeOf {x y : Int32} {i j : Nat} (u : UH) (hx : x = nI i) (hy : y = nI j) : fX11_placeOf x y u = some (nI (4 * i + j)) := by
  unfold fX11_placeOf; rw [hx, hy, pl2]
theorem x_hasPort {x y : Int32} {m n : Nat} (u : UH) (hx : x = nI m) (hy : y = nI n) (hm : m < 2 ^ 31) (hn : n < 32) : fX11_hasPort x y u = some (if m.testBit n then 1 else 0) := by
  refine of_wp ?_
  unfold fX11_hasPort
  exact wp_bit hx hy hm hn (fun h => wp_some (by rw [h]; rfl)) (fun h => wp_some (by rw [h]; rfl))
theorem x_hasHeader {s : Int64} {y : Int32} {n : Nat} (u : UH) (hy : y = nI n) (hn : n < 64) : fX11_hasHeader s y u = some (if tb s n then 1 else 0) := by
  refine of_wp ?_
  unfold fX11_hasHeader
  exact wp_ub0 hy hn (fun h => wp_some (by rw [h]; rfl)) (fun h => wp_some (by rw [h]; rfl))
/-! cubes -/
def CubeP (s : Int64) (care value : Nat) : Prop := ∀ h, h < 64 → tb s h = (decide (h < 32) && decide (h &&& care = value))
theorem wb_bits : ∀ j, j < 5 → ∀ h, h < 64 → tb (uWB j) h = (decide (h < 32) && h.testBit j) := by decide +kernel
theorem cube_bits : ∀ h, h < 32 → ∀ c, c < 32 → ∀ v, v < 32 → ((∀ j, j < 5 → c.testBit j = true → h.testBit j = v.testBit j) ↔ h &&& c = v &&& c) := by
  intro h hh c hc v hv
  constructor
  · intro H
    apply Nat.eq_of_testBit_eq
    intro i
    rw [Nat.testBit_and, Nat.testBit_and]
    by_cases hi : i < 5
    · cases hq : c.testBit i with
      | false => simp
      | true => rw [H i hi hq]
    · have : c.testBit i = false := Nat.testBit_lt_two_pow (Nat.lt_of_lt_of_le hc (show 2 ^ 5 ≤ 2 ^ i from Nat.pow_le_pow_right (by decide) (by omega)))
      simp [this]
  · intro H j hj hq
    have := congrArg (fun z => z.testBit j) H
    simp only [Nat.testBit_and, hq, Bool.and_true] at this
    exact this
def CbI (care value i h : Nat) : Prop := h < 32 ∧ ∀ j, j < i → care.testBit j = true → h.testBit j = value.testBit j
theorem CbI_s (care value i h : Nat) : CbI care value (i + 1) h ↔ CbI care value i h ∧ (care.testBit i = true → h.testBit i = value.testBit i) := by
  constructor
  · rintro ⟨h0, H⟩; exact ⟨⟨h0, fun j hj => H j (by omega)⟩, H i (by omega)⟩
  · rintro ⟨⟨h0, H1⟩, H2⟩
    refine ⟨h0, fun j hj => ?_⟩
    rcases Nat.lt_or_ge j i with h' | h'
    · exact H1 j h'
    · have : j = i := by omega
      subst this; exact H2
theorem x_cubeHeaders {x y : Int32} {care value : Nat} (u : UH) (hx : x = nI care) (hy : y = nI value) (hc : care < 32) (hv : value < 32) : wp (fX11_cubeHeaders x y u) (fun s => CubeP s care (value &&& care)) := by
  unfold fX11_cubeHeaders
  refine wp_obw (Q := fun s => ∀ h, h < 64 → (tb s h = true ↔ CbI care value 5 h)) ?_ (fun s hs => wp_some (fun h hh => ?_))
  · refine it2_up2F (show (0 : Int32) = nI 0 from rfl) 5 (by decide) (fun i s => ∀ h, h < 64 → (tb s h = true ↔ CbI care value i h)) (fun k i s hi hI hk => ?_) (Nat.zero_le _) ?_
    · unfold fX11_cubeHeaders_B7
      refine wp_le (a := 5) rfl rfl (by decide) (by omega) (fun hc5 => wp_some (fun h hh => ?_)) (fun hc5 => ?_)
      · have : i = 5 := by omega
        subst this; exact hI h hh
      refine wp_bit hx rfl (by omega) (by omega) (fun hb => hk hc5 _ _ (nI_1 i) (fun h hh => ?_)) (fun hb => ?_)
      · rw [hI h hh, CbI_s]; simp [hb]
      refine wp_bit hy rfl (by omega) (by omega) (fun hb2 => ?_) (fun hb2 => ?_)
      · refine oWB rfl hc5 (hk hc5 _ _ (nI_1 i) (fun h hh => ?_))
        rw [tb_and, Bool.and_eq_true, hI h hh, tb_not _ hh, wb_bits i hc5 h hh, CbI_s]
        by_cases h32 : h < 32
        · simp [h32, hb, hb2]
        · simp [h32, CbI]
      · refine oWB rfl hc5 (hk hc5 _ _ (nI_1 i) (fun h hh => ?_))
        rw [tb_and, Bool.and_eq_true, hI h hh, wb_bits i hc5 h hh, CbI_s]
        by_cases h32 : h < 32
        · simp [h32, hb, hb2]
        · simp [h32, CbI]
    · intro h hh
      have h1 : tb (4294967295 : Int64) h = decide (h < 32) := (by decide +kernel : ∀ h, h < 64 → tb (4294967295 : Int64) h = decide (h < 32)) h hh
      rw [h1]
      simp [CbI]
  · rw [Bool.eq_iff_iff, hs h hh]
    by_cases h32 : h < 32
    · simp only [CbI, h32, true_and, decide_true, Bool.true_and, decide_eq_true_eq]
      exact cube_bits h h32 care hc value hv
    · simp [CbI, h32]
/-! a rule, as an object -/
def RP (b : UH) (fi : Nat → Nat → Nat → Int32) (fj : Nat → Nat → Nat → Int64) (ra : Nat) (r : RT) : Prop := uKd b ra = 7 ∧ (∀ f, f < 7 → fi 6 f ra = nI (r f)) ∧ CubeP (fj 6 7 ra) (r 1) (r 2)
section XR
variable {b : UH} {fi : Nat → Nat → Nat → Int32} {fj : Nat → Nat → Nat → Int64} {ai : Nat → Nat → Int32} {aj : Nat → Nat → Int64} {ar : Nat → Nat → Option Nat} {bits : Nat} {ra : Nat} {r : RT} {x y z : Int32} {port h : Nat}
theorem x_taken (hr : RP b fi fj ra r) (hw : RW bits r) (hx : x = nI port) (hp : port < 4) (s : Int64) : wp (fX6_taken ra x s (mk b fi fj ai aj ar)) (fun q => ∀ h, h < 64 → tb q h = (tb s h && (decide (h < 32) && mt r port h))) := by
  obtain ⟨w0, w1, w2, w3, w4, w5, w6, w7, w8, w9, w10⟩ := hw
  have l6 : r 6 ≤ 1 := by omega
  unfold fX6_taken
  refine oi hr.1 ?_
  rw [hr.2.1 6 (by decide)]
  refine wp_eqq rfl (show (0 : Int32) = nI 0 from rfl) (by omega) (by decide) (fun e => wp_some (fun h hh => ?_)) (fun e => ?_)
  · rw [tb_0]; simp [mt, e]
  refine oi hr.1 ?_
  have e1 : r 6 = 1 := by omega
  refine wp_bit (hr.2.1 0 (by decide)) hx (by omega) (by omega) (fun e2 => wp_some (fun h hh => ?_)) (fun e2 => oJ hr.1 (wp_some (fun h hh => ?_)))
  · rw [tb_0]; simp [mt, e2]
  · rw [tb_and, hr.2.2 h hh]; simp [mt, e1, e2]
theorem x_rewritten (hr : RP b fi fj ra r) (hb : BW bits) (hw : RW bits r) (hx : x = nI h) (hh : h < 32) : fX6_rewritten ra x (mk b fi fj ai aj ar) = some (nI (rw5 r h)) := by
  refine of_wp ?_
  unfold fX6_rewritten
  refine oi hr.1 (oi hr.1 (wp_some ?_))
  rw [hr.2.1 4 (by decide), hr.2.1 5 (by decide), hx]
  exact rw5_I hh (lt32 hb hw.2.2.2.2.2.2.1)
end XR
