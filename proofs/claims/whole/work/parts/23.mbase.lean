/-! THE REFERENCE (class 12): object 0; rows: 1 linked, 2 now, 3 keptRow, 4 moved, 5 arrived, 6 gone, 7 delivered, 8 wave, 9 way, 10 safe, 11 cut, 12 isAlways, 13 policyFrom, 14 policyTo, 15 policyCare, 16 policyValue, 17 text, 18 line -/
def mKd (a : Nat) : Option Nat := ([13, 20, 20, 20, 20, 21, 21, 21, 21, 20, 21, 20, 23, 20, 20, 20, 20, 22, 20] : List Nat)[a]?
def mLn (a : Nat) : Option Nat := ([0, 24, 258, 3096, 7, 24, 24, 24, 24, 768, 24, 3, 8, 8, 8, 8, 8, 40, 32] : List Nat)[a]?
def mRf (k : Nat) : Option Nat := match k with
  | 1 => some 1 | 3 => some 2 | 8 => some 3 | 9 => some 4 | 10 => some 5 | 11 => some 6 | 12 => some 7 | 13 => some 8 | 14 => some 9
  | 17 => some 10 | 18 => some 11 | 20 => some 12 | 21 => some 13 | 22 => some 14 | 23 => some 15 | 24 => some 16 | 26 => some 17 | 32 => some 18
  | _ => none
def mst (b : UH) : Prop := (∀ a t, mKd a = some t → uKd b a = t) ∧ (∀ a n, mLn a = some n → 1 ≤ a → uLn b a = n) ∧ ∀ k q, mRf k = some q → uR b 12 k 0 = some q
theorem mLn_lt {a n : Nat} (h : mLn a = some n) : n < 2 ^ 31 := by
  have h1 := List.mem_of_getElem? h
  have h2 : ∀ x ∈ ([0, 24, 258, 3096, 7, 24, 24, 24, 24, 768, 24, 3, 8, 8, 8, 8, 8, 40, 32] : List Nat), x < 2 ^ 31 := by decide
  exact h2 n h1
section MW
variable {b : UH} {fi : Nat → Nat → Nat → Int32} {fj : Nat → Nat → Nat → Int64} {ai : Nat → Nat → Int32} {aj : Nat → Nat → Int64} {ar : Nat → Nat → Option Nat} {k a t n i : Nat} {α β γ : Type} {P : β → Prop} {x v : Int32}
theorem mR (hs : mst b) {q : Nat} {K : Nat → Option β} (hq : mRf k = some q) (h : wp (K q) P) : wp (ob (rR (mk b fi fj ai aj ar) 12 k 0) K) P := wp_ob (wp_rR (hs.1 0 13 rfl) (hs.2.2 k q hq) h)
theorem mI (hs : mst b) {K : Int32 → Option β} (h : wp (K (fi 12 k 0)) P) : wp (ob (rI (mk b fi fj ai aj ar) 12 k 0) K) P := wp_ob (wp_rI (hs.1 0 13 rfl) h)
theorem mW (hs : mst b) {K : UH → Option β} (h : wp (K (mk b (up3 fi 12 k 0 v) fj ai aj ar)) P) : wp (ob (wI (mk b fi fj ai aj ar) 12 k 0 v) K) P := wp_ob (wp_wI (hs.1 0 13 rfl) h)
theorem mWZ (hs : mst b) {K : UH → Option β} (hv : v = 0 ∨ v = 1) (h : wp (K (mk b (up3 fi 12 k 0 v) fj ai aj ar)) P) : wp (ob (wZ (mk b fi fj ai aj ar) 12 k 0 v) K) P := wp_ob (wp_wZ (hs.1 0 13 rfl) hv h)
theorem mL (hs : mst b) {K : Int32 → Option β} (hk : mKd a = some t) (hn : mLn a = some n) (ha : 1 ≤ a) (hx : x = nI i) (hi : i < n) (h : wp (K (ai a i)) P) : wp (ob (ldI (mk b fi fj ai aj ar) t a x) K) P := wp_ob (wp_ldI (hs.1 a t hk) (hs.2.1 a n hn ha) hx hi (mLn_lt hn) h)
theorem mLJ (hs : mst b) {K : Int64 → Option β} (hk : mKd a = some 21) (hn : mLn a = some n) (ha : 1 ≤ a) (hx : x = nI i) (hi : i < n) (h : wp (K (aj a i)) P) : wp (ob (ldJ (mk b fi fj ai aj ar) a x) K) P := wp_ob (wp_ldJ (hs.1 a 21 hk) (hs.2.1 a n hn ha) hx hi (mLn_lt hn) h)
theorem mS (hs : mst b) {K : UH → Option β} (hk : mKd a = some 20) (hn : mLn a = some n) (ha : 1 ≤ a) (hx : x = nI i) (hi : i < n) (h : wp (K (mk b fi fj (up2 ai a i v) aj ar)) P) : wp (ob (stI (mk b fi fj ai aj ar) a x v) K) P := wp_ob (wp_stI (hs.1 a 20 hk) (hs.2.1 a n hn ha) hx hi (mLn_lt hn) h)
theorem mSC (hs : mst b) {K : UH → Option β} (hk : mKd a = some 22) (hn : mLn a = some n) (ha : 1 ≤ a) (hx : x = nI i) (hi : i < n) (h : wp (K (mk b fi fj (up2 ai a i (vp_nar .char v)) aj ar)) P) : wp (ob (stC (mk b fi fj ai aj ar) a x v) K) P := wp_ob (wp_stC (hs.1 a 22 hk) (hs.2.1 a n hn ha) hx hi (mLn_lt hn) h)
theorem mSZ (hs : mst b) {K : UH → Option β} (hk : mKd a = some 23) (hn : mLn a = some n) (ha : 1 ≤ a) (hx : x = nI i) (hi : i < n) (h : wp (K (mk b fi fj (up2 ai a i (vp_nar .boolean v)) aj ar)) P) : wp (ob (stZ (mk b fi fj ai aj ar) a x v) K) P := wp_ob (wp_stZ (hs.1 a 23 hk) (hs.2.1 a n hn ha) hx hi (mLn_lt hn) h)
theorem mSJ (hs : mst b) {w : Int64} {K : UH → Option β} (hk : mKd a = some 21) (hn : mLn a = some n) (ha : 1 ≤ a) (hx : x = nI i) (hi : i < n) (h : wp (K (mk b fi fj ai (up2 aj a i w) ar)) P) : wp (ob (stJ (mk b fi fj ai aj ar) a x w) K) P := wp_ob (wp_stJ (hs.1 a 21 hk) (hs.2.1 a n hn ha) hx hi (mLn_lt hn) h)
theorem mE (hs : mst b) {y : Option α} {z : α} {K : α → Option β} (hy : y = some z) (h : wp (K z) P) : wp (ob (kd (mk b fi fj ai aj ar) 12 0 y) K) P := wp_ob (wp_kd (hs.1 0 13 rfl) ⟨z, hy, h⟩)
theorem mKw (hs : mst b) {y : Option α} {Q : α → Prop} {K : α → Option β} (hy : wp y Q) (h : ∀ z, Q z → wp (K z) P) : wp (ob (kd (mk b fi fj ai aj ar) 12 0 y) K) P := wp_ob (wp_kd (hs.1 0 13 rfl) (wp_mono hy h))
theorem mK2 (hs : mst b) {y : Option (α × γ)} {Q : α × γ → Prop} {K : α → γ → Option β} (hy : wp y Q) (h : ∀ z w, Q (z, w) → wp (K z w) P) : wp (ob2 (kd (mk b fi fj ai aj ar) 12 0 y) K) P := wp_ob2 (wp_kd (hs.1 0 13 rfl) (wp_mono hy (fun q hq => h q.1 q.2 hq)))
theorem mE2 (hs : mst b) {y : Option (α × γ)} {z : α} {w : γ} {K : α → γ → Option β} (hy : y = some (z, w)) (h : wp (K z w) P) : wp (ob2 (kd (mk b fi fj ai aj ar) 12 0 y) K) P := wp_ob2 (wp_kd (hs.1 0 13 rfl) ⟨(z, w), hy, h⟩)
end MW
/-! tests of a range -/
theorem m_in_ok {x lo hi : Int32} {i n : Nat} (u : UH) (hx : x = nI i) (hlo : lo = nI 0) (hhi : hi = nI n - 1) (h : i < n) (hn : n < 2 ^ 30) : fX12_in x lo hi u = some 1 := by
  subst hx; subst hlo; subst hhi
  unfold fX12_in
  rw [if_neg (nI_nlt (Nat.zero_le _) (by omega)), if_neg]
  intro hc
  have h1 := Int32.lt_iff_toInt_lt.mp hc
  have h2 : (nI n - nI 1).toInt = (n : Int) - (1 : Nat) := pk_sub_toInt hn (by decide)
  rw [show nI n - 1 = nI n - nI 1 from rfl, h2, nI_toInt (by omega)] at h1
  omega
theorem m_in_bad {x lo hi : Int32} {n : Nat} (u : UH) (hx : bad x n) (hlo : lo = nI 0) (hhi : hi = nI n - 1) (hn : n < 2 ^ 30) : fX12_in x lo hi u = some 0 := by
  subst hlo; subst hhi
  unfold fX12_in
  rcases hx with h | h
  · rw [if_pos (show x < nI 0 from h)]
  · by_cases h0 : x < nI 0
    · rw [if_pos h0]
    · rw [if_neg h0, if_pos]
      refine Int32.lt_iff_toInt_lt.mpr ?_
      have h2 : (nI n - nI 1).toInt = (n : Int) - (1 : Nat) := pk_sub_toInt hn (by decide)
      have h3 := Int32.le_iff_toInt_le.mp h
      rw [show nI n - 1 = nI n - nI 1 from rfl, h2]
      rw [nI_toInt (by omega)] at h3
      omega
theorem m_noBox_ok {x : Int32} {i : Nat} (u : UH) (hx : x = nI i) (h : i < 6) : fX12_noBox x u = some 0 := by
  refine of_wp ?_
  unfold fX12_noBox
  exact wp_obe (m_in_ok u hx rfl (show (5 : Int32) = nI 6 - 1 from rfl) h (by decide)) (wp_f (by decide) (wp_some rfl))
theorem m_noBox_bad {x : Int32} (u : UH) (hx : bad x 6) : fX12_noBox x u = some 1 := by
  refine of_wp ?_
  unfold fX12_noBox
  exact wp_obe (m_in_bad u hx rfl (show (5 : Int32) = nI 6 - 1 from rfl) (by decide)) (wp_t (by decide) (wp_some rfl))
theorem m_noPlace_ok {x y : Int32} {i j : Nat} (u : UH) (hx : x = nI i) (hy : y = nI j) (h : i < 6) (h2 : j < 4) : fX12_noPlace x y u = some 0 := by
  refine of_wp ?_
  unfold fX12_noPlace
  refine wp_obe (m_noBox_ok u hx h) (wp_t rfl ?_)
  exact wp_obe (m_in_ok u hy rfl (show (3 : Int32) = nI 4 - 1 from rfl) h2 (by decide)) (wp_f (by decide) (wp_some rfl))
theorem m_noPlace_bad {x y : Int32} (u : UH) (h : bad x 6 ∨ bad y 4) : fX12_noPlace x y u = some 1 := by
  refine of_wp ?_
  unfold fX12_noPlace
  rcases ix x 6 (by decide) with ⟨i, hi, hx⟩ | hx
  · rcases h with h | h
    · exact wp_obe (m_noBox_bad u h) (wp_f (by decide) (wp_some rfl))
    · refine wp_obe (m_noBox_ok u hx hi) (wp_t rfl ?_)
      exact wp_obe (m_in_bad u h rfl (show (3 : Int32) = nI 4 - 1 from rfl) (by decide)) (wp_t rfl (wp_some rfl))
  · exact wp_obe (m_noBox_bad u hx) (wp_f (by decide) (wp_some rfl))
/-- an int is a place, or it isn't -/
theorem pl_or (x y : Int32) : (∃ i j, i < 6 ∧ j < 4 ∧ x = nI i ∧ y = nI j) ∨ (bad x 6 ∨ bad y 4) := by
  rcases ix x 6 (by decide) with ⟨i, hi, hx⟩ | hx
  · rcases ix y 4 (by decide) with ⟨j, hj, hy⟩ | hy
    · exact Or.inl ⟨i, j, hi, hj, hx, hy⟩
    · exact Or.inr (Or.inr hy)
  · exact Or.inr (Or.inl hx)
/-- what the reference's network is -/
def NowP (now : Nat → Int32) (rb : RB) : Prop := ∀ box, box < 6 → now (252 + box) = nI (rb box).length ∧ ∀ i r, (rb box)[i]? = some r → ∀ f, f < 7 → now (7 * (6 * box + i) + f) = nI (r f)
def LkP (row : Nat → Int32) (lk : LK) : Prop := ∀ p, p < 24 → row p = oI (lk p)
section MB
variable {b : UH} {fi : Nat → Nat → Nat → Int32} {fj : Nat → Nat → Nat → Int64} {ai : Nat → Nat → Int32} {aj : Nat → Nat → Int64} {ar : Nat → Nat → Option Nat} {bits : Nat} {rb : RB} {x y z : Int32} {box i f : Nat}
theorem m_headers (hs : mst b) (hb : fi 12 0 0 = nI bits) (hw : BW bits) : fX12_headers 0 (mk b fi fj ai aj ar) = some (nI (2 ^ bits)) := by
  refine of_wp ?_
  unfold fX12_headers
  refine mI hs (wp_some ?_)
  rw [hb, jsl_1 (by have := hw.2; omega)]
theorem m_noHeader_ok (hs : mst b) (hb : fi 12 0 0 = nI bits) (hw : BW bits) (hx : x = nI i) (h : i < 2 ^ bits) : fX12_noHeader 0 x (mk b fi fj ai aj ar) = some 0 := by
  refine of_wp ?_
  unfold fX12_noHeader
  refine mE hs (m_headers hs hb hw) ?_
  have := (pow_b hw).2
  refine wp_obe (m_in_ok _ hx rfl rfl h (by omega)) (wp_f (by decide) (wp_some rfl))
theorem m_noHeader_bad (hs : mst b) (hb : fi 12 0 0 = nI bits) (hw : BW bits) (hx : bad x (2 ^ bits)) : fX12_noHeader 0 x (mk b fi fj ai aj ar) = some 1 := by
  refine of_wp ?_
  unfold fX12_noHeader
  refine mE hs (m_headers hs hb hw) ?_
  have := (pow_b hw).2
  refine wp_obe (m_in_bad _ hx rfl rfl (by omega)) (wp_t (by decide) (wp_some rfl))
theorem m_many (hs : mst b) (hx : x = nI box) (hbx : box < 6) : fX12_many 0 x (mk b fi fj ai aj ar) = some (ai 2 (252 + box)) := by
  refine of_wp ?_
  unfold fX12_many
  refine mR hs rfl (mL hs rfl rfl (by decide) (i := 252 + box) ?_ (by omega) (wp_some rfl))
  rw [hx]; exact nI_add 252 box
theorem ofx (box i f : Nat) : ((7 : Int32) * (((6 : Int32) * nI box) + nI i)) + nI f = nI (7 * (6 * box + i) + f) := by
  show nI 7 * (nI 6 * nI box + nI i) + nI f = _
  rw [pk_mul, nI_add, pk_mul, nI_add]
theorem m_of (hs : mst b) (hx : x = nI box) (hy : y = nI i) (hz : z = nI f) (hbx : box < 6) (hi : i < 6) (hf : f < 7) : fX12_of 0 x y z (mk b fi fj ai aj ar) = some (ai 2 (7 * (6 * box + i) + f)) := by
  refine of_wp ?_
  unfold fX12_of
  refine mR hs rfl (mL hs rfl rfl (by decide) (i := 7 * (6 * box + i) + f) ?_ (by omega) (wp_some rfl))
  rw [hx, hy, hz]; exact ofx box i f
theorem m_put (hs : mst b) {v : Int32} (hx : x = nI box) (hy : y = nI i) (hz : z = nI f) (hbx : box < 6) (hi : i < 6) (hf : f < 7) : fX12_put 0 x y z v (mk b fi fj ai aj ar) = some (mk b fi fj (up2 ai 2 (7 * (6 * box + i) + f) v) aj ar) := by
  refine of_wp ?_
  unfold fX12_put
  refine mR hs rfl (mS hs rfl rfl (by decide) (i := 7 * (6 * box + i) + f) ?_ (by omega) (wp_some rfl))
  rw [hx, hy, hz]; exact ofx box i f
/-- the rule's number f, as the reference has it -/
theorem m_ofr (hs : mst b) (hN : NowP (ai 2) rb) (hW : (rb box).length ≤ 6) (hx : x = nI box) (hy : y = nI i) (hz : z = nI f) (hbx : box < 6) {r : RT} (hr : (rb box)[i]? = some r) (hf : f < 7) : fX12_of 0 x y z (mk b fi fj ai aj ar) = some (nI (r f)) := by
  have hi : i < (rb box).length := (List.getElem?_eq_some_iff.mp hr).1
  rw [m_of hs hx hy hz hbx (by omega) hf, (hN box hbx).2 i r hr f hf]
theorem m_manyr (hs : mst b) (hN : NowP (ai 2) rb) (hx : x = nI box) (hbx : box < 6) : fX12_many 0 x (mk b fi fj ai aj ar) = some (nI (rb box).length) := by
  rw [m_many hs hx hbx, (hN box hbx).1]
theorem m_noRule_ok (hs : mst b) (hN : NowP (ai 2) rb) (hx : x = nI box) (hbx : box < 6) (hl : (rb box).length ≤ 6) (hy : y = nI i) (hi : i < (rb box).length) : fX12_noRule 0 x y (mk b fi fj ai aj ar) = some 0 := by
  refine of_wp ?_
  unfold fX12_noRule
  refine mE hs (m_manyr hs hN hx hbx) ?_
  exact wp_obe (m_in_ok _ hy rfl rfl hi (by omega)) (wp_f (by decide) (wp_some rfl))
theorem m_noRule_bad (hs : mst b) (hN : NowP (ai 2) rb) (hx : x = nI box) (hbx : box < 6) (hl : (rb box).length ≤ 6) (hy : bad y (rb box).length) : fX12_noRule 0 x y (mk b fi fj ai aj ar) = some 1 := by
  refine of_wp ?_
  unfold fX12_noRule
  refine mE hs (m_manyr hs hN hx hbx) ?_
  exact wp_obe (m_in_bad _ hy rfl rfl (by omega)) (wp_t (by decide) (wp_some rfl))
theorem m_ruleBarred_ok (hs : mst b) (hN : NowP (ai 2) rb) (hx : x = nI box) (hbx : box < 6) (hl : (rb box).length ≤ 6) (hy : y = nI i) (hi : i < (rb box).length) : fX12_ruleBarred 0 x y (mk b fi fj ai aj ar) = some 0 := by
  refine of_wp ?_
  unfold fX12_ruleBarred
  refine wp_obe (m_noBox_ok _ hx hbx) (wp_t rfl ?_)
  exact mE hs (m_noRule_ok hs hN hx hbx hl hy hi) (wp_t rfl (wp_some rfl))
theorem m_ruleBarred_r (hs : mst b) (hN : NowP (ai 2) rb) (hx : x = nI box) (hbx : box < 6) (hl : (rb box).length ≤ 6) (hy : bad y (rb box).length) : fX12_ruleBarred 0 x y (mk b fi fj ai aj ar) = some (-2) := by
  refine of_wp ?_
  unfold fX12_ruleBarred
  refine wp_obe (m_noBox_ok _ hx hbx) (wp_t rfl ?_)
  exact mE hs (m_noRule_bad hs hN hx hbx hl hy) (wp_f (by decide) (wp_some rfl))
theorem m_ruleBarred_b (hx : bad x 6) (u : UH) : fX12_ruleBarred 0 x y u = some (-1) := by
  refine of_wp ?_
  unfold fX12_ruleBarred
  exact wp_obe (m_noBox_bad _ hx) (wp_f (by decide) (wp_some rfl))
theorem m_matches (hs : mst b) (hN : NowP (ai 2) rb) (hw : BW bits) (hW : RBW bits rb) {port h : Nat} {x3 x4 : Int32} (hx : x = nI box) (hbx : box < 6) (hy : y = nI i) {r : RT} (hr : (rb box)[i]? = some r) (h3 : x3 = nI port) (hp : port < 4) (h4 : x4 = nI h) (hh : h < 32) : fX12_matches 0 x y x3 x4 (mk b fi fj ai aj ar) = some (if mt r port h then 1 else 0) := by
  obtain ⟨w0, w1, w2, w3, w4, w5, w6, w7, w8, w9, w10⟩ := (hW box hbx).2 r (List.mem_of_getElem? hr)
  have l2 := lt32 hw w2
  have l3 := lt32 hw w3
  have l6 : r 6 ≤ 1 := by rcases w9 with h | h <;> omega
  refine of_wp ?_
  unfold fX12_matches mt
  refine mE hs (m_ofr (f := 6) hs hN (hW box hbx).1 hx hy rfl hbx hr (by decide)) ?_
  refine wp_eqq rfl rfl (by omega) (by decide) (fun e6 => ?_) (fun e6 => wp_some (by simp [e6]))
  refine mE hs (m_ofr (f := 0) hs hN (hW box hbx).1 hx hy rfl hbx hr (by decide)) ?_
  rw [h3, jsr_bit (by omega) (by omega)]
  refine wp_eqq rfl rfl (by split <;> decide) (by decide) (fun e0 => ?_) (fun e0 => wp_some (by cases hq : (r 0).testBit port <;> simp_all))
  refine mE hs (m_ofr (f := 1) hs hN (hW box hbx).1 hx hy rfl hbx hr (by decide)) ?_
  refine mE hs (m_ofr (f := 2) hs hN (hW box hbx).1 hx hy rfl hbx hr (by decide)) ?_
  rw [h4, nx_and]
  have hq : (r 0).testBit port = true := by cases hq : (r 0).testBit port <;> simp_all
  have l4 : h &&& r 1 < 32 := and_lt l2
  refine wp_eqq rfl rfl (by omega) (by omega) (fun e1 => wp_some (by simp [e6, hq, e1])) (fun e1 => wp_some (by simp [e6, hq, e1]))
theorem m_handler (hs : mst b) (hN : NowP (ai 2) rb) (hw : BW bits) (hW : RBW bits rb) {port h : Nat} {x3 x4 : Int32} (hx : x = nI box) (hbx : box < 6) (h3 : x3 = nI port) (hp : port < 4) (h4 : x4 = nI h) (hh : h < 32) : fX12_handler 0 x x3 x4 (mk b fi fj ai aj ar) = some (oI (hd (rb box) port h)) := by
  have hl := (hW box hbx).1
  refine of_wp ?_
  unfold fX12_handler
  refine wp_oew (Q := fun q => match q with | .inl _ => hd (rb box) port h = none | .inr z => z = oI (hd (rb box) port h)) ?_ (fun _ hq => wp_some (by rw [hq]; rfl)) (fun z hq => wp_some hq)
  refine it1_up1F rfl (rb box).length (by omega) (fun i => ∀ (j : Nat) r', j < i → (rb box)[j]? = some r' → mt r' port h = false) (fun k i hi hI hk => ?_) (Nat.zero_le _) (fun j r' hj => absurd hj (Nat.not_lt_zero _))
  unfold fX12_handler_B3
  refine mE hs (m_manyr hs hN hx hbx) ?_
  refine wp_le rfl rfl (by omega) (by omega) (fun hc => wp_some (hd_isn (fun j r' hr => hI j r' (by have := (List.getElem?_eq_some_iff.mp hr).1; omega) hr))) (fun hc => ?_)
  have hr : (rb box)[i]? = some ((rb box)[i]) := List.getElem?_eq_getElem hc
  refine mE hs (m_matches hs hN hw hW hx hbx rfl hr h3 hp h4 hh) ?_
  cases hm : mt ((rb box)[i]) port h with
  | false =>
    refine wp_t (by simp) (hk hc _ (nI_1 i) (fun j r' hj hr' => ?_))
    rcases Nat.lt_or_ge j i with hji | hji
    · exact hI j r' hji hr'
    · have : j = i := by omega
      subst this
      rw [hr] at hr'
      cases hr'
      exact hm
  | true =>
    refine wp_f (by simp) (wp_some ?_)
    show nI i = oI (hd (rb box) port h)
    rw [hd_is hr hm hI]
    rfl
theorem m_rewritten (hs : mst b) (hN : NowP (ai 2) rb) (hw : BW bits) (hW : RBW bits rb) {h : Nat} {x3 : Int32} (hx : x = nI box) (hbx : box < 6) (hy : y = nI i) {r : RT} (hr : (rb box)[i]? = some r) (h3 : x3 = nI h) (hh : h < 32) : fX12_rewritten 0 x y x3 (mk b fi fj ai aj ar) = some (nI (rw5 r h)) := by
  obtain ⟨w0, w1, w2, w3, w4, w5, w6, w7, w8, w9, w10⟩ := (hW box hbx).2 r (List.mem_of_getElem? hr)
  refine of_wp ?_
  unfold fX12_rewritten
  refine mE hs (m_ofr (f := 4) hs hN (hW box hbx).1 hx hy rfl hbx hr (by decide)) ?_
  refine mE hs (m_ofr (f := 5) hs hN (hW box hbx).1 hx hy rfl hbx hr (by decide)) (wp_some ?_)
  rw [h3]
  exact rw5_I hh (lt32 hw w6)
end MB
