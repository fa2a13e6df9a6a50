/-! rewriting, bit by bit -/
def sbit (x j : Nat) (v : Bool) : Nat := if v then x ||| 2 ^ j else x &&& (2 ^ j ^^^ 31)
def rws (c t : Nat) : Nat → Nat → Nat
  | 0, h => h
  | j + 1, h => if c.testBit j then sbit (rws c t j h) j (t.testBit j) else rws c t j h
def rwp (c t : Nat) : Nat → Nat → Nat
  | 0, h => h
  | j + 1, h => rwp c t j (if c.testBit j then sbit h j (t.testBit j) else h)
theorem rws_s (c t j h : Nat) : rws c t (j + 1) h = if c.testBit j then sbit (rws c t j h) j (t.testBit j) else rws c t j h := rfl
theorem rwp_s (c t j h : Nat) : rwp c t (j + 1) h = rwp c t j (if c.testBit j then sbit h j (t.testBit j) else h) := rfl
theorem sb_lt : ∀ x, x < 32 → ∀ j, j < 5 → ∀ v, sbit x j v < 32 := by decide +kernel
theorem sb_f0 : ∀ x, x < 32 → ∀ j, j < 5 → x.testBit j = false → sbit x j false = x := by decide +kernel
theorem sb_f1 : ∀ x, x < 32 → ∀ j, j < 5 → x.testBit j = true → 2 ^ j + sbit x j false = x := by decide +kernel
theorem sb_f2 : ∀ x, x < 32 → ∀ j, j < 5 → (sbit x j false).testBit j = false := by decide +kernel
theorem sb_t0 : ∀ x, x < 32 → ∀ j, j < 5 → x.testBit j = true → sbit x j true = x := by decide +kernel
theorem sb_t1 : ∀ x, x < 32 → ∀ j, j < 5 → x.testBit j = false → sbit x j true = x + 2 ^ j := by decide +kernel
theorem sb_t2 : ∀ x, x < 32 → ∀ j, j < 5 → (sbit x j true).testBit j = true := by decide +kernel
theorem sb_u : ∀ x, x < 32 → ∀ j, j < 5 → 2 ^ j + x < 32 → (2 ^ j + x).testBit j = true → sbit (2 ^ j + x) j false = x := by decide +kernel
theorem sb_d : ∀ x, x < 32 → ∀ j, j < 5 → 2 ^ j ≤ x → (x - 2 ^ j).testBit j = false → sbit (x - 2 ^ j) j true = x := by decide +kernel
theorem sb_c : ∀ x, x < 32 → ∀ j, j < 5 → x.testBit j = false → x + 2 ^ j < 32 := by decide +kernel
theorem p2_lt : ∀ j, j < 5 → 2 ^ j < 32 := by decide
set_option maxRecDepth 100000 in
theorem rws_5 : ∀ c, c < 32 → ∀ t, t < 32 → t &&& c = t → ∀ h, h < 32 → rws c t 5 h = (h &&& (c ^^^ 31)) ||| t := by decide +kernel
set_option maxRecDepth 100000 in
theorem rwp_5 : ∀ c, c < 32 → ∀ t, t < 32 → t &&& c = t → ∀ h, h < 32 → rwp c t 5 h = (h &&& (c ^^^ 31)) ||| t := by decide +kernel
theorem rws_lt {c t h : Nat} (hh : h < 32) : ∀ j, j ≤ 5 → rws c t j h < 32
  | 0, _ => hh
  | j + 1, hj => by
    unfold rws
    split
    · exact sb_lt _ (rws_lt hh j (by omega)) j (by omega) _
    · exact rws_lt hh j (by omega)
/-- a set has headers below 32 alone -/
def In32 (s : Int64) : Prop := ∀ h, 32 ≤ h → tb s h = false
theorem In32.lt {s : Int64} (hs : In32 s) {h : Nat} (h1 : tb s h = true) : h < 32 := by
  rcases Nat.lt_or_ge h 32 with h2 | h2
  · exact h2
  · rw [hs h h2] at h1; cases h1
theorem wb_bits' {j h : Nat} (hj : j < 5) : tb (uWB j) h = (decide (h < 32) && h.testBit j) := by
  rcases Nat.lt_or_ge h 64 with h1 | h1
  · exact wb_bits j hj h h1
  · rw [tb_big h1, decide_eq_false (by omega)]; rfl
theorem tb_not' (x : Int64) {i : Nat} (h : i < 32) : tb (x ^^^ (-1)) i = !tb x i := tb_not x (by omega)
section XS
variable {b : UH} {fi : Nat → Nat → Nat → Int32} {fj : Nat → Nat → Nat → Int64} {ai : Nat → Nat → Int32} {aj : Nat → Nat → Int64} {ar : Nat → Nat → Option Nat} {bits : Nat} {ra : Nat} {r : RT} {x y z : Int32} {port h : Nat}
/-- the halves of a set, by one bit -/
theorem hi_tb {q : Int64} {j x : Nat} (hj : j < 5) : tb (q &&& uWB j) x = (tb q x && (decide (x < 32) && x.testBit j)) := by rw [tb_and, wb_bits' hj]
theorem lo_tb {q : Int64} {j x : Nat} (hq : In32 q) (hj : j < 5) : tb (q &&& (uWB j ^^^ (-1))) x = (tb q x && !x.testBit j) := by
  rcases Nat.lt_or_ge x 32 with h1 | h1
  · rw [tb_and, tb_not' _ h1, wb_bits' hj]; simp [h1]
  · rw [tb_and, hq x h1]; simp
theorem sh_up {q : Int64} {j x : Nat} (hj : j < 5) (hx : x < 64) : tb (jlsl q (nI (2 ^ j))) x = (decide (2 ^ j ≤ x) && tb q (x - 2 ^ j)) := tb_shl (by have := p2_lt j hj; omega) q hx
theorem sh_dn {q : Int64} {j x : Nat} (hj : j < 5) : tb (jlur q (nI (2 ^ j))) x = tb q (2 ^ j + x) := tb_ushr (by have := p2_lt j hj; omega) q x
theorem x_rewrittenSet (hr : RP b fi fj ra r) (hb : BW bits) (hw : RW bits r) {s : Int64} (hs : In32 s) : wp (fX6_rewrittenSet ra s (mk b fi fj ai aj ar)) (fun q => In32 q ∧ ∀ x, x < 32 → (tb q x = true ↔ ∃ h, h < 32 ∧ tb s h = true ∧ rw5 r h = x)) := by
  obtain ⟨w0, w1, w2, w3, w4, w5, w6, w7, w8, w9, w10⟩ := hw
  have l4 := lt32 hb w6
  have l5 := lt32 hb w7
  unfold fX6_rewrittenSet
  refine wp_obw (Q := fun q => In32 q ∧ ∀ x, x < 32 → (tb q x = true ↔ ∃ h, h < 32 ∧ tb s h = true ∧ rws (r 4) (r 5) 5 h = x)) ?_ (fun q hq => wp_some ⟨hq.1, fun x hx => ?_⟩)
  · refine it2_up2F (show (0 : Int32) = nI 0 from rfl) 5 (by decide) (fun i q => In32 q ∧ ∀ x, x < 32 → (tb q x = true ↔ ∃ h, h < 32 ∧ tb s h = true ∧ rws (r 4) (r 5) i h = x)) (fun k i q hi hI hk => ?_) (Nat.zero_le _) ⟨hs, fun x hx => ⟨fun h => ⟨x, hx, h, rfl⟩, fun ⟨h, _, h2, h3⟩ => h3 ▸ h2⟩⟩
    obtain ⟨h32, hI⟩ := hI
    have hp := Nat.two_pow_pos i
    unfold fX6_rewrittenSet_B5
    refine wp_le (a := 5) rfl rfl (by decide) (by omega) (fun hc => wp_some ?_) (fun hc => ?_)
    · have : i = 5 := by omega
      subst this; exact ⟨h32, hI⟩
    refine oi hr.1 (wp_bit (hr.2.1 4 (by decide)) rfl (by omega) (by omega) (fun hb1 => hk hc _ _ (nI_1 i) ⟨h32, fun x hx => ?_⟩) (fun hb1 => ?_))
    · rw [hI x hx]; simp [rws_s, hb1]
    refine oWB rfl hc (oWB rfl hc (oi hr.1 ?_))
    rw [jsl_1 (by omega)]
    refine wp_bit (hr.2.1 5 (by decide)) rfl (by omega) (by omega) (fun hb2 => hk hc _ _ (nI_1 i) ?_) (fun hb2 => hk hc _ _ (nI_1 i) ?_)
    · refine ⟨fun x hx => ?_, fun x hx => ?_⟩
      · rw [tb_or, lo_tb h32 hc, sh_dn hc, hi_tb hc, h32 x hx, decide_eq_false (by have := p2_lt i hc; omega : ¬ 2 ^ i + x < 32)]; simp
      · rw [tb_or, lo_tb h32 hc, sh_dn hc, hi_tb hc]
        constructor
        · intro H
          rw [Bool.or_eq_true] at H
          rcases H with H | H
          · rw [Bool.and_eq_true] at H
            obtain ⟨z, z1, z2, z3⟩ := (hI x hx).mp H.1
            refine ⟨z, z1, z2, ?_⟩
            rw [rws_s, if_pos hb1, hb2, z3]
            exact sb_f0 x hx i hc (by simpa using H.2)
          · simp only [Bool.and_eq_true, decide_eq_true_eq] at H
            obtain ⟨z, z1, z2, z3⟩ := (hI _ H.2.1).mp H.1
            refine ⟨z, z1, z2, ?_⟩
            rw [rws_s, if_pos hb1, hb2, z3]
            exact sb_u x hx i hc H.2.1 H.2.2
        · rintro ⟨z, z1, z2, z3⟩
          rw [rws_s, if_pos hb1, hb2] at z3
          have zl := rws_lt (c := r 4) (t := r 5) z1 i (by omega)
          have hz := (hI _ zl).mpr ⟨z, z1, z2, rfl⟩
          cases hq : (rws (r 4) (r 5) i z).testBit i with
          | false =>
            rw [sb_f0 _ zl i hc hq] at z3
            rw [z3] at hz hq
            simp [hz, hq]
          | true =>
            have e := sb_f1 _ zl i hc hq
            rw [z3] at e
            rw [← e] at hz hq zl
            simp [hz, hq, zl]
    · refine ⟨fun x hx => ?_, fun x hx => ?_⟩
      · rcases Nat.lt_or_ge x 64 with hx64 | hx64
        · rw [tb_or, hi_tb hc, sh_up hc hx64, lo_tb h32 hc, decide_eq_false (by omega : ¬ x < 32)]
          simp only [Bool.false_and, Bool.and_false, Bool.false_or]
          cases hq : tb q (x - 2 ^ i) with
          | false => simp
          | true =>
            have hlt := h32.lt hq
            cases hq2 : (x - 2 ^ i).testBit i with
            | true => simp
            | false =>
              have := sb_c _ hlt i hc hq2
              have h3 : ¬ 2 ^ i ≤ x := by omega
              simp [h3]
        · exact tb_big hx64
      · rw [tb_or, hi_tb hc, sh_up hc (by omega), lo_tb h32 hc]
        constructor
        · intro H
          rw [Bool.or_eq_true] at H
          rcases H with H | H
          · simp only [Bool.and_eq_true, decide_eq_true_eq] at H
            obtain ⟨z, z1, z2, z3⟩ := (hI x hx).mp H.1
            refine ⟨z, z1, z2, ?_⟩
            rw [rws_s, if_pos hb1, hb2, z3]
            exact sb_t0 x hx i hc H.2.2
          · simp only [Bool.and_eq_true, decide_eq_true_eq] at H
            obtain ⟨z, z1, z2, z3⟩ := (hI _ (by omega)).mp H.2.1
            refine ⟨z, z1, z2, ?_⟩
            rw [rws_s, if_pos hb1, hb2, z3]
            exact sb_d x hx i hc H.1 (by simpa using H.2.2)
        · rintro ⟨z, z1, z2, z3⟩
          rw [rws_s, if_pos hb1, hb2] at z3
          have zl := rws_lt (c := r 4) (t := r 5) z1 i (by omega)
          have hz := (hI _ zl).mpr ⟨z, z1, z2, rfl⟩
          cases hq : (rws (r 4) (r 5) i z).testBit i with
          | true =>
            rw [sb_t0 _ zl i hc hq] at z3
            rw [z3] at hz hq
            simp [hz, hq, hx]
          | false =>
            have e := sb_t1 _ zl i hc hq
            rw [z3] at e
            have e2 : x - 2 ^ i = rws (r 4) (r 5) i z := by omega
            rw [e2]
            have e3 : 2 ^ i ≤ x := by omega
            simp [hz, hq, e3]
  · rw [hq.2 x hx]
    constructor
    · rintro ⟨z, z1, z2, z3⟩; exact ⟨z, z1, z2, by rw [← z3, rws_5 _ l4 _ l5 w8 z z1]; rfl⟩
    · rintro ⟨z, z1, z2, z3⟩; exact ⟨z, z1, z2, by rw [← z3, rws_5 _ l4 _ l5 w8 z z1]; rfl⟩
theorem x_leadingInto (hr : RP b fi fj ra r) (hb : BW bits) (hw : RW bits r) {s : Int64} (hs : In32 s) : wp (fX6_leadingInto ra s (mk b fi fj ai aj ar)) (fun q => In32 q ∧ ∀ x, x < 32 → tb q x = tb s (rw5 r x)) := by
  obtain ⟨w0, w1, w2, w3, w4, w5, w6, w7, w8, w9, w10⟩ := hw
  have l4 := lt32 hb w6
  have l5 := lt32 hb w7
  unfold fX6_leadingInto
  refine wp_obw (Q := fun q => In32 q ∧ ∀ x, x < 32 → tb q x = tb s (rwp (r 4) (r 5) 5 x)) ?_ (fun q hq => wp_some ⟨hq.1, fun x hx => by rw [hq.2 x hx, rwp_5 _ l4 _ l5 w8 x hx]; rfl⟩)
  refine it2_up2F (show (0 : Int32) = nI 0 from rfl) 5 (by decide) (fun i q => In32 q ∧ ∀ x, x < 32 → tb q x = tb s (rwp (r 4) (r 5) i x)) (fun k i q hi hI hk => ?_) (Nat.zero_le _) ⟨hs, fun x hx => rfl⟩
  obtain ⟨h32, hI⟩ := hI
  have hp := Nat.two_pow_pos i
  unfold fX6_leadingInto_B5
  refine wp_le (a := 5) rfl rfl (by decide) (by omega) (fun hc => wp_some ?_) (fun hc => ?_)
  · have : i = 5 := by omega
    subst this; exact ⟨h32, hI⟩
  refine oi hr.1 (wp_bit (hr.2.1 4 (by decide)) rfl (by omega) (by omega) (fun hb1 => hk hc _ _ (nI_1 i) ⟨h32, fun x hx => ?_⟩) (fun hb1 => ?_))
  · rw [hI x hx, rwp_s]; simp [hb1]
  refine oWB rfl hc (oWB rfl hc (oi hr.1 ?_))
  rw [jsl_1 (by omega)]
  refine wp_bit (hr.2.1 5 (by decide)) rfl (by omega) (by omega) (fun hb2 => hk hc _ _ (nI_1 i) ?_) (fun hb2 => hk hc _ _ (nI_1 i) ?_)
  · have key : ∀ x, x < 64 → (tb ((q &&& (uWB i ^^^ (-1))) ||| jlsl (q &&& (uWB i ^^^ (-1))) (nI (2 ^ i))) x = ((tb q x && !x.testBit i) || (decide (2 ^ i ≤ x) && (tb q (x - 2 ^ i) && !(x - 2 ^ i).testBit i)))) := fun x hx => by rw [tb_or, lo_tb h32 hc, sh_up hc hx, lo_tb h32 hc]
    refine ⟨fun x hx => ?_, fun x hx => ?_⟩
    · rcases Nat.lt_or_ge x 64 with hx64 | hx64
      · rw [key x hx64, h32 x hx]
        simp only [Bool.false_and, Bool.false_or]
        cases hq : tb q (x - 2 ^ i) with
        | false => simp
        | true =>
          have hlt := h32.lt hq
          cases hq2 : (x - 2 ^ i).testBit i with
          | true => simp
          | false =>
            have := sb_c _ hlt i hc hq2
            have h3 : ¬ 2 ^ i ≤ x := by omega
            simp [h3]
      · exact tb_big hx64
    · rw [key x (by omega)]
      rw [rwp_s, if_pos hb1, hb2, ← hI _ (sb_lt x hx i hc false)]
      cases hq : x.testBit i with
      | false =>
        rw [sb_f0 x hx i hc hq]
        simp only [Bool.not_false, Bool.and_true]
        cases hq3 : tb q x with
        | true => simp
        | false =>
          simp only [Bool.false_or]
          by_cases h3 : 2 ^ i ≤ x
          · cases hq4 : (x - 2 ^ i).testBit i with
            | true => simp
            | false =>
              have h5 := sb_t1 (x - 2 ^ i) (by omega) i hc hq4
              have h6 := sb_t2 (x - 2 ^ i) (by omega) i hc
              rw [h5, show x - 2 ^ i + 2 ^ i = x by omega, hq] at h6
              cases h6
          · simp [h3]
      | true =>
        have e := sb_f1 x hx i hc hq
        have e2 : x - 2 ^ i = sbit x i false := by omega
        have e3 : 2 ^ i ≤ x := by omega
        rw [e2, sb_f2 x hx i hc]
        simp [e3]
  · have key : ∀ x, (tb ((q &&& uWB i) ||| jlur (q &&& uWB i) (nI (2 ^ i))) x = ((tb q x && (decide (x < 32) && x.testBit i)) || (tb q (2 ^ i + x) && (decide (2 ^ i + x < 32) && (2 ^ i + x).testBit i)))) := fun x => by rw [tb_or, hi_tb hc, sh_dn hc, hi_tb hc]
    refine ⟨fun x hx => ?_, fun x hx => ?_⟩
    · rw [key x, decide_eq_false (by omega : ¬ x < 32), decide_eq_false (by omega : ¬ 2 ^ i + x < 32)]; simp
    · rw [key x]
      rw [rwp_s, if_pos hb1, hb2, ← hI _ (sb_lt x hx i hc true)]
      cases hq : x.testBit i with
      | true =>
        rw [sb_t0 x hx i hc hq]
        simp only [hx, decide_true, Bool.and_true]
        cases hq3 : tb q x with
        | true => simp
        | false =>
          simp only [Bool.false_or]
          by_cases h3 : 2 ^ i + x < 32
          · cases hq4 : (2 ^ i + x).testBit i with
            | false => simp
            | true =>
              have h5 := sb_u x hx i hc h3 hq4
              have h6 := sb_f2 (2 ^ i + x) h3 i hc
              rw [h5, hq] at h6
              cases h6
          · simp [h3]
      | false =>
        have e := sb_t1 x hx i hc hq
        have e1 := sb_c x hx i hc hq
        have e2 : 2 ^ i + x = sbit x i true := by omega
        rw [e2, sb_t2 x hx i hc]
        have e3 : sbit x i true < 32 := by omega
        simp [e3]
end XS
