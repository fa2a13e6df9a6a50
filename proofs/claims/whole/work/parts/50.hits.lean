theorem ct_cut {f : Nat → Bool} {n m : Nat} (h : n ≤ m) (hf : ∀ k, n ≤ k → k < m → f k = false) : fb_ct f m = fb_ct f n := by
  have := fb_ct_split f n (m - n)
  rw [show n + (m - n) = m by omega] at this
  rw [this, fb_ct_zero.mpr (fun k hk => hf (n + k) (by omega) (by omega))]
  rfl
theorem sm_one {L j : Nat} (h : j < L) : fb_sm (fun i => if i = j then 1 else 0) L = 1 := by
  induction L with
  | zero => omega
  | succ L ih =>
    rw [fb_sm_succ]
    by_cases e : j = L
    · subst e
      rw [if_pos rfl, fb_sm_cong (g := fun _ => 0) (fun k hk => if_neg (by omega)), fb_sm_const]
      simp
    · rw [if_neg (fun z => e z.symm), ih (by omega)]
theorem ct_parts {f : Nat → Bool} {c : Nat → Option Nat} {L : Nat} (hc : ∀ h i, c h = some i → i < L) : ∀ n, fb_ct f n = fb_ct (fun h => f h && decide (c h = none)) n + fb_sm (fun i => fb_ct (fun h => f h && decide (c h = some i)) n) L
  | 0 => by
    show 0 = 0 + fb_sm (fun _ => 0) L
    rw [fb_sm_const]; simp
  | n + 1 => by
    have e : fb_sm (fun i => fb_ct (fun h => f h && decide (c h = some i)) (n + 1)) L = fb_sm (fun i => fb_ct (fun h => f h && decide (c h = some i)) n) L + fb_sm (fun i => if (f n && decide (c n = some i)) then 1 else 0) L := by
      rw [← fb_sm_add]; rfl
    rw [fb_ct_succ, fb_ct_succ, e, ct_parts hc n]
    cases hf : f n with
    | false =>
      rw [fb_sm_cong (f := fun i => if (false && decide (c n = some i)) then 1 else 0) (g := fun _ => 0) (fun k hk => by simp), fb_sm_const]
      simp
    | true =>
      cases hcn : c n with
      | none =>
        rw [fb_sm_cong (f := fun i => if (true && decide (none = some i)) then 1 else 0) (g := fun _ => 0) (fun k hk => by simp), fb_sm_const]
        simp; omega
      | some j =>
        rw [fb_sm_cong (f := fun i => if (true && decide (some j = some i)) then 1 else 0) (g := fun i => if i = j then 1 else 0) (fun k hk => by simp [eq_comm]), sm_one (hc n j hcn)]
        simp; omega
theorem sm_swap (f : Nat → Nat → Nat) (m : Nat) : ∀ n, fb_sm (fun i => fb_sm (fun j => f i j) m) n = fb_sm (fun j => fb_sm (fun i => f i j) n) m
  | 0 => by
    show 0 = fb_sm (fun _ => 0) m
    rw [fb_sm_const]; simp
  | n + 1 => by
    rw [fb_sm_succ, sm_swap f m n, ← fb_sm_add]; rfl
/-- how many of those that are at box are taken by o -/
def cn (A : Nat → Int64) (rs : List RT) (box : Nat) (o : Option Nat) (b : Nat) : Nat := fb_sm (fun port => fb_ct (fun h => tb (A (4 * box + port)) h && decide (hd rs port h = o)) (2 ^ b)) 4
theorem cn_le {A : Nat → Int64} {rs : List RT} {box : Nat} {o : Option Nat} {b : Nat} (hb : BW b) : cn A rs box o b ≤ 128 := by
  have hp := (pow_b hb).2
  have : cn A rs box o b ≤ 4 * 32 := fb_sm_bound (fun k _ => Nat.le_trans (fb_ct_le _ _) hp)
  omega
theorem oI_inj {o o' : Option Nat} (h : ∀ q, o = some q → q < 2 ^ 31) (h' : ∀ q, o' = some q → q < 2 ^ 31) : oI o = oI o' ↔ o = o' := by
  constructor
  · intro e
    cases o with
    | none => exact ((oI_m1 h').mp e.symm).symm
    | some a =>
      cases o' with
      | none => have := (oI_m1 h).mp e; exact this
      | some c => rw [(nI_eq (h a rfl) (h' c rfl)).mp e]
  · rintro rfl; rfl
theorem add0 (x : Int32) : x + 0 = x := Int32.add_zero x
section
variable {b : UH} {fi : Nat → Nat → Nat → Int32} {fj : Nat → Nat → Nat → Int64} {ai : Nat → Nat → Int32} {aj : Nat → Nat → Int64} {ar : Nat → Nat → Option Nat} {T : TS} {bits : Nat} {rb : RB} {x1 x2 : Int32} {box n : Nat} {o : Option Nat}
theorem m_handledBy (hs : mst b) (hb : fi 12 0 0 = nI bits) (hN : NowP (ai 2) rb) (hbw : BW bits) (hW : RBW bits rb) (h1 : x1 = nI box) (hbx : box < 6) (h2 : x2 = oI o) (ho : ∀ q, o = some q → q < 2 ^ 31) : fX12_handledBy 0 x1 x2 (mk b fi fj ai aj ar) = some (nI (cn (aj 5) (rb box) box o bits)) := by
  have hp2 := (pow_b hbw).2
  have h6 := (hW box hbx).1
  refine of_wp ?_
  unfold fX12_handledBy
  refine wp_obw (Q := fun q => q = nI (cn (aj 5) (rb box) box o bits)) ?_ (fun q hq => wp_some hq)
  refine it2_up2F (show (0 : Int32) = nI 0 from rfl) 4 (by decide) (fun q z => z = nI (fb_sm (fun port => fb_ct (fun h => tb (aj 5 (4 * box + port)) h && decide (hd (rb box) port h = o)) (2 ^ bits)) q)) (fun k q z hq hI hk => ?_) (Nat.zero_le _) rfl
  unfold fX12_handledBy_B5
  refine wp_le (a := 4) rfl rfl (by decide) (by omega) (fun hc => wp_some ?_) (fun hc => ?_)
  · have : q = 4 := by omega
    subst this; exact hI
  · refine wp_obw (Q := fun z' => z' = nI (fb_sm (fun port => fb_ct (fun h => tb (aj 5 (4 * box + port)) h && decide (hd (rb box) port h = o)) (2 ^ bits)) (q + 1))) ?_ (fun z' hz' => hk hc _ _ (nI_1 q) hz')
    refine it2_up2F (show (0 : Int32) = nI 0 from rfl) (2 ^ bits) (by omega) (fun g z' => z' = nI (fb_sm (fun port => fb_ct (fun h => tb (aj 5 (4 * box + port)) h && decide (hd (rb box) port h = o)) (2 ^ bits)) q + fb_ct (fun h => tb (aj 5 (4 * box + q)) h && decide (hd (rb box) q h = o)) g)) (fun k2 g z' hg hI2 hk2 => ?_) (Nat.zero_le _) (by rw [hI]; rfl)
    unfold fX12_handledBy_B14
    refine mE hs (m_headers hs hb hbw) (wp_le rfl rfl (by omega) (by omega) (fun hc2 => wp_some ?_) (fun hc2 => ?_))
    · have : g = 2 ^ bits := by omega
      subst this; exact hI2
    · rw [h1, pl1]
      refine mR hs rfl (mLJ hs rfl rfl (by decide) rfl (by omega) ?_)
      refine wp_tb1 rfl (by omega) (fun ht => ?_) (fun hf => ?_)
      · refine mE hs (m_handler hs hN hbw hW rfl hbx rfl hc rfl (lt32 hbw hc2)) ?_
        refine wp_if (fun he => ?_) (fun he => ?_)
        · have he' := (oI_inj (fun i hi => by have := hd_lt hi; omega) ho).mp (he.trans h2)
          refine wp_lt (hk2 hc2 _ _ (nI_1 g) ?_)
          rw [hI2, nI_1, fb_ct_succ, if_pos (by simp [ht, he']), Nat.add_assoc]
        · have he' : hd (rb box) q g ≠ o := fun e => he (by rw [h2, e])
          refine wp_lt (hk2 hc2 _ _ (nI_1 g) ?_)
          rw [hI2, add0, fb_ct_succ, if_neg (by simp [he']), Nat.add_zero]
      · refine wp_lt (hk2 hc2 _ _ (nI_1 g) ?_)
        rw [hI2, add0, fb_ct_succ, if_neg (by simp [hf]), Nat.add_zero]
theorem x_countHandled (hs : xst b) (hW : WF T) (hP : XPic T b fi fj ai ar) (hrg : ∀ q, q < 24 → ∀ g, tb (aj 46 q) g = true → g < 2 ^ tB T) (h1 : x1 = nI box) (hb : box < 6) (h2 : x2 = nI n) (hn : n < (tR T box).length) : fX2_countHandled 45 x1 x2 (mk b fi fj ai aj ar) = some (nI (cn (aj 46) (tR T box) box (some n) (tB T))) := by
  have hL := hP.2.2.2.2.1 box hb
  have hA := LA_box box hb
  have hRW := (hW.2.2.1 box hb).2
  have hp2 := (pow_b hW.1).2
  refine of_wp ?_
  unfold fX2_countHandled
  refine oR (hs.1 45 3 rfl) (hs.2.2 2 0 45 1 rfl) (oR (hs.1 1 5 rfl) (hs.2.2 4 3 1 3 rfl) (oLR (hs.1 3 26 rfl) (hs.2.1 3 6 rfl) h1 hb (by decide) (hP.1.1 _ hb) ?_))
  refine wp_obw (Q := fun q => q = nI (cn (aj 46) (tR T box) box (some n) (tB T))) ?_ (fun q hq => wp_some hq)
  refine it2_up2F (show (0 : Int32) = nI 0 from rfl) 4 (by decide) (fun q z => z = nI (fb_sm (fun port => fb_ct (fun h => tb (aj 46 (4 * box + port)) h && decide (hd (tR T box) port h = some n)) (2 ^ tB T)) q)) (fun k q z hq hI hk => ?_) (Nat.zero_le _) rfl
  unfold fX2_countHandled_B16
  refine wp_le (a := 4) rfl rfl (by decide) (by omega) (fun hc => wp_some ?_) (fun hc => ?_)
  · have : q = 4 := by omega
    subst this; exact hI
  · refine oR (hs.1 45 3 rfl) (hs.2.2 2 1 45 46 rfl) (wp_obe (x_placeOf _ h1 rfl) (oLJ (hs.1 46 21 rfl) (hs.2.1 46 24 rfl) rfl (by omega) (by decide) ?_))
    refine oKw (hs.1 _ _ hA.1) (x_handled hs hA hL hRW h2 hn rfl hc _) (fun w hw => ?_)
    have h32 : In32 w := fun i hi => by
      cases hq2 : tb w i with
      | false => rfl
      | true =>
        have := ((hw i (tb_lt64 hq2)).mp hq2).2.1
        omega
    refine wp_obe (x_bitCount _ h32) (wp_lt (hk hc _ _ (nI_1 q) ?_))
    rw [hI, nI_add, fb_sm_succ]
    congr 2
    rw [ct_cut hp2 (fun i hi hi2 => ?_)]
    · refine fb_ct_cong (fun i hi => ?_)
      rw [Bool.eq_iff_iff, hw i (by omega), Bool.and_eq_true, decide_eq_true_eq]
      exact ⟨fun H => ⟨H.1, H.2.2⟩, fun H => ⟨H.1, by omega, H.2⟩⟩
    · cases hq2 : tb w i with
      | false => rfl
      | true =>
        have := hrg _ (by omega) i ((hw i (by omega)).mp hq2).1
        omega
theorem x_countLost (hs : xst b) (hW : WF T) (hP : XPic T b fi fj ai ar) (hrg : ∀ q, q < 24 → ∀ g, tb (aj 46 q) g = true → g < 2 ^ tB T) (h1 : x1 = nI box) (hb : box < 6) : fX2_countLost 45 x1 (mk b fi fj ai aj ar) = some (nI (cn (aj 46) (tR T box) box none (tB T))) := by
  have hL := hP.2.2.2.2.1 box hb
  have h6 := hL.2.1
  have hA := LA_box box hb
  have hRW := (hW.2.2.1 box hb).2
  have hp2 := (pow_b hW.1).2
  refine of_wp ?_
  unfold fX2_countLost
  refine oR (hs.1 45 3 rfl) (hs.2.2 2 0 45 1 rfl) (oR (hs.1 1 5 rfl) (hs.2.2 4 3 1 3 rfl) (oLR (hs.1 3 26 rfl) (hs.2.1 3 6 rfl) h1 hb (by decide) (hP.1.1 _ hb) ?_))
  refine wp_obw (Q := fun q => q = nI (cn (aj 46) (tR T box) box none (tB T))) ?_ (fun q hq => wp_some hq)
  refine it2_up2F (show (0 : Int32) = nI 0 from rfl) 4 (by decide) (fun q z => z = nI (fb_sm (fun port => fb_ct (fun h => tb (aj 46 (4 * box + port)) h && decide (hd (tR T box) port h = none)) (2 ^ tB T)) q)) (fun k q z hq hI hk => ?_) (Nat.zero_le _) rfl
  unfold fX2_countLost_B15
  refine wp_le (a := 4) rfl rfl (by decide) (by omega) (fun hc => wp_some ?_) (fun hc => ?_)
  · have : q = 4 := by omega
    subst this; exact hI
  · refine oi (hs.1 _ _ hA.1) ?_
    refine oR (hs.1 45 3 rfl) (hs.2.2 2 1 45 46 rfl) (wp_obe (x_placeOf _ h1 rfl) (oLJ (hs.1 46 21 rfl) (hs.2.1 46 24 rfl) rfl (by omega) (by decide) ?_))
    refine oKw (hs.1 _ _ hA.1) (x_leftFor hs hA hL hRW (n := (tR T box).length) hL.1 (Nat.le_refl _) rfl hc _) (fun w hw => ?_)
    have hrw : ∀ i, tb w i = true → i < 2 ^ tB T := fun i H => hrg _ (by omega) i ((hw i (tb_lt64 H)).mp H).1
    have h32 : In32 w := fun i hi => by
      cases hq2 : tb w i with
      | false => rfl
      | true =>
        have := hrw i hq2
        omega
    refine wp_obe (x_bitCount _ h32) (wp_lt (hk hc _ _ (nI_1 q) ?_))
    rw [hI, nI_add, fb_sm_succ]
    congr 2
    rw [ct_cut hp2 (fun i hi hi2 => ?_)]
    · refine fb_ct_cong (fun i hi => ?_)
      rw [Bool.eq_iff_iff, hw i (by omega), Bool.and_eq_true, decide_eq_true_eq]
      constructor
      · rintro ⟨H1, H2⟩
        exact ⟨H1, hd_isn (fun j r' hr' => H2 (by omega) j r' (List.getElem?_eq_some_iff.mp hr').1 hr')⟩
      · rintro ⟨H1, H2⟩
        exact ⟨H1, fun _ j r' _ hr' => hd_none H2 j r' hr'⟩
    · cases hq2 : tb w i with
      | false => rfl
      | true =>
        have := hrw i hq2
        omega
theorem x_countArrived (hs : xst b) (hW : WF T) (hrg : ∀ q, q < 24 → ∀ g, tb (aj 46 q) g = true → g < 2 ^ tB T) (h1 : x1 = nI box) (hb : box < 6) : fX2_countArrived 45 x1 (mk b fi fj ai aj ar) = some (nI (fb_sm (fun port => fb_ct (tb (aj 46 (4 * box + port))) (2 ^ tB T)) 4)) := by
  have hp2 := (pow_b hW.1).2
  refine of_wp ?_
  unfold fX2_countArrived
  refine wp_obw (Q := fun q => q = nI (fb_sm (fun port => fb_ct (tb (aj 46 (4 * box + port))) (2 ^ tB T)) 4)) ?_ (fun q hq => wp_some hq)
  refine it2_up2F (show (0 : Int32) = nI 0 from rfl) 4 (by decide) (fun q z => z = nI (fb_sm (fun port => fb_ct (tb (aj 46 (4 * box + port))) (2 ^ tB T)) q)) (fun k q z hq hI hk => ?_) (Nat.zero_le _) rfl
  unfold fX2_countArrived_B4
  refine wp_le (a := 4) rfl rfl (by decide) (by omega) (fun hc => wp_some ?_) (fun hc => ?_)
  · have : q = 4 := by omega
    subst this; exact hI
  · refine oR (hs.1 45 3 rfl) (hs.2.2 2 1 45 46 rfl) (wp_obe (x_placeOf _ h1 rfl) (oLJ (hs.1 46 21 rfl) (hs.2.1 46 24 rfl) rfl (by omega) (by decide) ?_))
    have out : ∀ i, 2 ^ tB T ≤ i → tb (aj 46 (4 * box + q)) i = false := fun i hi => by
      cases hq2 : tb (aj 46 (4 * box + q)) i with
      | false => rfl
      | true =>
        have := hrg _ (by omega) i hq2
        omega
    refine wp_obe (x_bitCount _ (fun i hi => out i (by omega))) (wp_lt (hk hc _ _ (nI_1 q) ?_))
    rw [hI, nI_add, fb_sm_succ, ct_cut hp2 (fun i hi hi2 => out i hi)]
theorem x_countDropped (hs : xst b) (hW : WF T) (hP : XPic T b fi fj ai ar) (hrg : ∀ q, q < 24 → ∀ g, tb (aj 46 q) g = true → g < 2 ^ tB T) (h1 : x1 = nI box) (hb : box < 6) : fX2_countDropped 45 x1 (mk b fi fj ai aj ar) = some (nI (fb_sm (fun i => if ((tR T box)[i]?).any (fun r => decide (r 3 = 0)) then cn (aj 46) (tR T box) box (some i) (tB T) else 0) (tR T box).length)) := by
  have hL := hP.2.2.2.2.1 box hb
  have h6 := hL.2.1
  have hA := LA_box box hb
  have hRW := (hW.2.2.1 box hb).2
  refine of_wp ?_
  unfold fX2_countDropped
  refine oR (hs.1 45 3 rfl) (hs.2.2 2 0 45 1 rfl) (oR (hs.1 1 5 rfl) (hs.2.2 4 3 1 3 rfl) (oLR (hs.1 3 26 rfl) (hs.2.1 3 6 rfl) h1 hb (by decide) (hP.1.1 _ hb) ?_))
  refine wp_obw (Q := fun q => q = nI (fb_sm (fun i => if ((tR T box)[i]?).any (fun r => decide (r 3 = 0)) then cn (aj 46) (tR T box) box (some i) (tB T) else 0) (tR T box).length)) ?_ (fun q hq => wp_some hq)
  refine it2_up2F (show (0 : Int32) = nI 0 from rfl) (tR T box).length (by omega) (fun q z => z = nI (fb_sm (fun i => if ((tR T box)[i]?).any (fun r => decide (r 3 = 0)) then cn (aj 46) (tR T box) box (some i) (tB T) else 0) q)) (fun k q z hq hI hk => ?_) (Nat.zero_le _) rfl
  unfold fX2_countDropped_B15
  refine oi (hs.1 _ _ hA.1) ?_
  rw [hL.1]
  refine wp_le rfl rfl (by omega) (by omega) (fun hc => wp_some ?_) (fun hc => ?_)
  · have : q = (tR T box).length := by omega
    subst this; exact hI
  · have hr : (tR T box)[q]? = some ((tR T box)[q]'hc) := List.getElem?_eq_getElem hc
    generalize (tR T box)[q] = r at hr
    have hrw := hRW r (List.mem_of_getElem? hr)
    have hr3 := hrw.2.2.2.2.2.1
    obtain ⟨ra, e1, e2⟩ := hL.2.2.2 q r hr
    refine oR (hs.1 _ _ hA.1) (hs.2.2 _ _ _ _ hA.2.2.2) (oLR (hs.1 _ _ hA.2.1) (hs.2.1 _ _ hA.2.2.1) rfl (by omega) (by decide) e1 (oi e2.1 ?_))
    rw [e2.2.1 3 (by decide)]
    refine wp_eqq (b := 0) rfl rfl (by omega) (by decide) (fun h0 => ?_) (fun h0 => ?_)
    · refine oE (hs.1 45 3 rfl) (x_countHandled hs hW hP hrg h1 hb rfl hc) (wp_lt (hk hc _ _ (nI_1 q) ?_))
      rw [hI, nI_add, fb_sm_succ, hr]
      simp [h0]
    · refine hk hc _ _ (nI_1 q) ?_
      rw [hI, fb_sm_succ, hr]
      simp [h0]
end
