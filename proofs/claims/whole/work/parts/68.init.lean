/-! THE START: both objects, as their constructors leave them -/
def e0 : UH := (0, fun _ => 0, fun _ => 0, fun _ _ _ => 0, fun _ _ _ => 0, fun _ _ _ => none, fun _ _ => 0, fun _ _ => 0, fun _ _ => none)
def anyO (o : Option UH) (f : UH → Bool) : Bool := match o with
  | none => false
  | some u => f u
theorem anyO_some {o : Option UH} {f : UH → Bool} (h : anyO o f = true) : ∃ u, o = some u ∧ f u = true := by
  cases o with
  | none => cases h
  | some u => exact ⟨u, rfl, h⟩
def allN (n : Nat) (f : Nat → Bool) : Bool := match n with
  | 0 => true
  | n + 1 => f n && allN n f
theorem allN_spec {f : Nat → Bool} : ∀ {n : Nat}, allN n f = true → ∀ i, i < n → f i = true
  | 0, _, i, hi => absurd hi (Nat.not_lt_zero _)
  | n + 1, h, i, hi => by
    have h' : (f n && allN n f) = true := h
    rw [Bool.and_eq_true] at h'
    by_cases e : i = n
    · rw [e]; exact h'.1
    · exact allN_spec h'.2 i (by omega)
def T0 : TS := (4, fun _ => none, 0, fun _ => [], [], (0, 0, 0), [], [])
theorem WF_T0 : WF T0 := by
  refine ⟨⟨by decide, by decide⟩, fun p q h => (by cases h), fun box hb => ⟨Nat.zero_le _, fun r hr => (by cases hr)⟩, ⟨Nat.zero_le _, fun H hH => (by cases hH)⟩, ⟨by decide, by decide, by decide, by decide⟩, ⟨Nat.zero_le _, fun p hp => (by cases hp)⟩, Nat.zero_le _⟩
def chkM (u : UH) : Bool := allN 19 (fun a => decide (mKd a = some (uKd u a))) && (allN 19 (fun a => decide (a = 0) || decide (mLn a = some (uLn u a))) && (allN 33 (fun k => match mRf k with | none => true | some q => decide (uR u 12 k 0 = some q)) && (decide (uI u 12 0 0 = 4) && (allN 24 (fun p => decide (uAI u 1 p = -1)) && (decide (uI u 12 2 0 = 0) && (allN 6 (fun j => decide (uAI u 2 (252 + j) = 0)) && (decide (uI u 12 7 0 = 0) && (decide (uI u 12 4 0 = 0) && (decide (uI u 12 5 0 = 0) && (decide (uI u 12 6 0 = 0) && (decide (uI u 12 19 0 = 0) && (decide (uI u 12 25 0 = 0) && decide (uSz u = 19)))))))))))))
set_option maxHeartbeats 4000000 in
theorem m0_chk : anyO (fX12_init 0 (uNew e0 12)) chkM = true := by decide +kernel
theorem m0_ok : ∃ u, fX12_init 0 (uNew e0 12) = some u ∧ MR T0 u ∧ uSz u = 19 := by
  obtain ⟨u, e, h⟩ := anyO_some m0_chk
  unfold chkM at h
  simp only [Bool.and_eq_true, decide_eq_true_eq] at h
  obtain ⟨h1, h2, h3, h4, h5, h6, h7, h8, h9, h10, h11, h12, h13, h14⟩ := h
  refine ⟨u, e, ⟨⟨fun a t ht => ?_, fun a n hn ha => ?_, fun k q hq => ?_⟩, h4, fun p hp => ?_, h6, fun box hb => ⟨?_, fun i r hr => (by cases hr)⟩, ⟨h8, fun j H hj => (by cases hj)⟩, ⟨h9, h10, h11⟩, ⟨h12, fun i p hp => (by cases hp)⟩, h13, fun i c hc => (by cases hc)⟩, h14⟩
  · have hlt : a < 19 := (List.getElem?_eq_some_iff.mp ht).1
    have := of_decide_eq_true (allN_spec h1 a hlt)
    rw [ht] at this; exact (Option.some.inj this).symm
  · have hlt : a < 19 := (List.getElem?_eq_some_iff.mp hn).1
    have := allN_spec h2 a hlt
    rw [Bool.or_eq_true, decide_eq_true_eq, decide_eq_true_eq] at this
    rcases this with h | h
    · omega
    · rw [hn] at h; exact (Option.some.inj h).symm
  · have hlt : k < 33 := by
      unfold mRf at hq
      split at hq <;> first | omega | skip
      cases hq
    have := allN_spec h3 k hlt
    rw [hq] at this
    exact of_decide_eq_true this
  · exact of_decide_eq_true (allN_spec h5 p hp)
  · exact of_decide_eq_true (allN_spec h7 box hb)
def xrfs : List (Nat × Nat × Nat × Nat) := [(11, 0, 0, 1), (11, 1, 0, 17), (11, 2, 0, 45), (11, 3, 0, 49), (11, 4, 0, 51), (11, 5, 0, 53), (11, 6, 0, 60), (11, 7, 0, 62), (11, 8, 0, 64), (4, 2, 1, 2), (4, 3, 1, 3), (3, 0, 17, 18), (3, 1, 17, 19), (2, 0, 45, 1), (2, 1, 45, 46), (2, 2, 45, 47), (2, 3, 45, 48), (1, 0, 49, 1), (1, 1, 49, 50), (10, 0, 51, 1), (10, 1, 51, 52), (0, 0, 53, 1), (0, 1, 53, 54), (0, 2, 53, 55), (0, 3, 53, 56), (0, 4, 53, 57), (0, 5, 53, 58), (0, 6, 53, 59), (9, 0, 60, 61), (8, 0, 62, 63)]
def isR7 (u : UH) (o : Option Nat) : Bool := match o with
  | none => false
  | some ra => decide (uKd u ra = 7)
def chkX (u : UH) : Bool := allN 73 (fun a => decide (xKd a = some (uKd u a))) && (allN 73 (fun a => match xLn a with | none => true | some n => decide (uLn u a = n)) && (xrfs.all (fun q => decide (uR u q.1 q.2.1 q.2.2.1 = some q.2.2.2)) && (allN 73 (fun a => match xRf 7 0 a with | none => true | some q => decide (uR u 7 0 a = some q)) && (allN 6 (fun j => decide (uAR u 3 j = some (5 + 2 * j))) && (allN 12 (fun j => decide (uAR u 18 j = some (21 + 2 * j))) && (allN 8 (fun j => decide (uAR u 64 j = some (65 + j))) && (decide (uI u 4 0 1 = 4) && (allN 24 (fun p => decide (uAI u 2 p = -1)) && (decide (uI u 4 1 1 = 0) && (allN 6 (fun j => decide (uI u 7 1 (5 + 2 * j) = 0) && allN 6 (fun i => isR7 u (uAR u (6 + 2 * j) i))) && (decide (uI u 3 2 17 = 0) && (decide (uI u 3 3 17 = 0) && (decide (uI u 11 10 0 = 0) && (decide (uJ u 11 11 0 = 65535) && (decide (uI u 11 9 0 = 0) && (decide (uI u 9 1 60 = 0) && decide (uSz u = 73)))))))))))))))))
set_option maxHeartbeats 4000000 in
theorem x0_chk : anyO (fX11_init 0 (uNew e0 11)) chkX = true := by decide +kernel
theorem xRf_cases {c k a q : Nat} (h : xRf c k a = some q) : (c, k, a, q) ∈ xrfs ∨ (c = 7 ∧ k = 0 ∧ a < 73) := by
  have hlt := xRf_lt h
  unfold xRf at h
  split at h <;> first | (cases h; left; decide) | (right; exact ⟨rfl, rfl, hlt⟩) | cases h
theorem ent0 : ∀ h, h < 64 → tb 65535 h = (decide (h < 2 ^ 4) && decide (h &&& 0 = 0)) := by decide +kernel
theorem x0_ok : ∃ u, fX11_init 0 (uNew e0 11) = some u ∧ xst u ∧ XPic T0 u (uI u) (uJ u) (uAI u) (uAR u) ∧ uSz u = 73 := by
  obtain ⟨u, e, h⟩ := anyO_some x0_chk
  unfold chkX at h
  simp only [Bool.and_eq_true, decide_eq_true_eq] at h
  obtain ⟨h1, h2, h3, h4, h5, h6, h7, h8, h9, h10, h11, h12, h13, h14, h15, h16, h17, h18⟩ := h
  refine ⟨u, e, ⟨fun a t ht => ?_, fun a n hn => ?_, fun c k a q hq => ?_⟩, ⟨⟨fun j hj => of_decide_eq_true (allN_spec h5 j hj), fun j hj => of_decide_eq_true (allN_spec h6 j hj), fun j hj => of_decide_eq_true (allN_spec h7 j hj)⟩, h8, fun p hp => of_decide_eq_true (allN_spec h9 p hp), h10, fun box hb => ?_, ⟨h12, 0, by decide, h13, trivial⟩, ⟨h14, ?_⟩, ⟨h16, fun i p hp => (by cases hp)⟩, h17, fun i c hc => (by cases hc)⟩, h18⟩
  · have hlt := xKd_lt ht
    have := of_decide_eq_true (allN_spec h1 a hlt)
    rw [ht] at this; exact (Option.some.inj this).symm
  · have hlt : a < 73 := by
      unfold xLn at hn
      split at hn <;> first | omega | skip
      split at hn
      · omega
      · cases hn
    have := allN_spec h2 a hlt
    rw [hn] at this
    exact of_decide_eq_true this
  · rcases xRf_cases hq with hm | ⟨rfl, rfl, hlt⟩
    · exact of_decide_eq_true (List.all_eq_true.mp h3 _ hm)
    · have := allN_spec h4 a hlt
      rw [hq] at this
      exact of_decide_eq_true this
  · have := allN_spec h11 box hb
    rw [Bool.and_eq_true, decide_eq_true_eq] at this
    refine ⟨this.1, Nat.zero_le _, fun i hi => ?_, fun i r hr => (by cases hr)⟩
    have h0 := allN_spec this.2 i hi
    rw [show 6 + 2 * box = 5 + 2 * box + 1 by omega] at h0
    unfold isR7 at h0
    split at h0
    · cases h0
    · rename_i ra hra
      exact ⟨ra, hra, of_decide_eq_true h0⟩
  · intro h hh
    rw [h15]; exact ent0 h hh
