/-! loops whose end is told by a number n that the state need not hold -/
theorem it2_gh {α1 α2 E : Type} {b : (α1 → α2 → Option E) → α1 → α2 → Option E} {P : E → Prop} (I : Nat → α1 → α2 → Prop) (hb : ∀ (k : α1 → α2 → Option E) n x1 x2, I n x1 x2 → (∀ m y1 y2, m < n → I m y1 y2 → wp (k y1 y2) P) → wp (b k x1 x2) P) : ∀ F n x1 x2, I n x1 x2 → n < F → wp (it2 b F x1 x2) P := by
  intro F
  induction F with
  | zero => intro n x1 x2 _ h; exact absurd h (Nat.not_lt_zero _)
  | succ F ih => intro n x1 x2 hi h; exact hb (it2 b F) n x1 x2 hi (fun m y1 y2 hm hi2 => ih m y1 y2 hi2 (by omega))
theorem it3_gh {α1 α2 α3 E : Type} {b : (α1 → α2 → α3 → Option E) → α1 → α2 → α3 → Option E} {P : E → Prop} (I : Nat → α1 → α2 → α3 → Prop) (hb : ∀ (k : α1 → α2 → α3 → Option E) n x1 x2 x3, I n x1 x2 x3 → (∀ m y1 y2 y3, m < n → I m y1 y2 y3 → wp (k y1 y2 y3) P) → wp (b k x1 x2 x3) P) : ∀ F n x1 x2 x3, I n x1 x2 x3 → n < F → wp (it3 b F x1 x2 x3) P := by
  intro F
  induction F with
  | zero => intro n x1 x2 x3 _ h; exact absurd h (Nat.not_lt_zero _)
  | succ F ih => intro n x1 x2 x3 hi h; exact hb (it3 b F) n x1 x2 x3 hi (fun m y1 y2 y3 hm hi2 => ih m y1 y2 y3 hi2 (by omega))
theorem it4_gh {α1 α2 α3 α4 E : Type} {b : (α1 → α2 → α3 → α4 → Option E) → α1 → α2 → α3 → α4 → Option E} {P : E → Prop} (I : Nat → α1 → α2 → α3 → α4 → Prop) (hb : ∀ (k : α1 → α2 → α3 → α4 → Option E) n x1 x2 x3 x4, I n x1 x2 x3 x4 → (∀ m y1 y2 y3 y4, m < n → I m y1 y2 y3 y4 → wp (k y1 y2 y3 y4) P) → wp (b k x1 x2 x3 x4) P) : ∀ F n x1 x2 x3 x4, I n x1 x2 x3 x4 → n < F → wp (it4 b F x1 x2 x3 x4) P := by
  intro F
  induction F with
  | zero => intro n x1 x2 x3 x4 _ h; exact absurd h (Nat.not_lt_zero _)
  | succ F ih => intro n x1 x2 x3 x4 hi h; exact hb (it4 b F) n x1 x2 x3 x4 hi (fun m y1 y2 y3 y4 hm hi2 => ih m y1 y2 y3 y4 hi2 (by omega))
/-! the packet that is followed -/
def stp (lk : LK) (rb : RB) (a : Nat × Nat) : Nat ⊕ (Nat × Nat) := match hd (rb (a.1 / 4)) (a.1 % 4) a.2 with
  | none => .inl 2
  | some i => match (rb (a.1 / 4))[i]? with
    | none => .inl 2
    | some r => match lowO (r 3) with
      | none => .inl 1
      | some o => match lk (4 * (a.1 / 4) + o) with
        | none => .inl 0
        | some q => .inr (q, rw5 r a.2)
/-- so far: n arrivals and the one that is reached -/
def ChW (bits : Nat) (lk : LK) (rb : RB) (s : Nat × Nat) (w : Nat → Nat × Nat) (n : Nat) : Prop := w 0 = s ∧ (∀ i, i ≤ n → (w i).1 < 24 ∧ (w i).2 < 2 ^ bits) ∧ (∀ i, i < n → stp lk rb (w i) = .inr (w (i + 1))) ∧ ∀ i j, i < j → j ≤ n → w i ≠ w j
def IsW (bits : Nat) (lk : LK) (rb : RB) (s : Nat × Nat) (w : Nat → Nat × Nat) (n e : Nat) : Prop := ChW bits lk rb s w n ∧ ((stp lk rb (w n) = .inl e ∧ e < 3) ∨ (e = 3 ∧ ∃ j, j ≤ n ∧ stp lk rb (w n) = .inr (w j)))
theorem ChW.lt {bits : Nat} {lk : LK} {rb : RB} {s : Nat × Nat} {w : Nat → Nat × Nat} {n : Nat} (hb : BW bits) (h : ChW bits lk rb s w n) : n < 768 := by
  have hp2 := (pow_b hb).2
  have := fb_holes 768 (n + 1) (fun i => 32 * (w i).1 + (w i).2) (fun i hi => by have := h.2.1 i (by omega); omega) (fun i j hij hj e => by
    have h1 := h.2.1 i (by omega)
    have h2 := h.2.1 j (by omega)
    refine h.2.2.2 i j hij (by omega) (Prod.ext ?_ ?_)
    · omega
    · omega)
  omega
theorem cod_inj {bits : Nat} (hb : BW bits) {a c : Nat × Nat} (h1 : a.2 < 2 ^ bits) (h2 : c.2 < 2 ^ bits) (e : 32 * a.1 + a.2 = 32 * c.1 + c.2) : a = c := by
  have hp2 := (pow_b hb).2
  exact Prod.ext (by omega) (by omega)
theorem pl32 (p h : Nat) : ((32 : Int32) * nI p) + nI h = nI (32 * p + h) := by
  show nI 32 * nI p + nI h = _
  rw [pk_mul, nI_add]
theorem up3_3 {α : Type} (f : Nat → Nat → Nat → α) (c k a : Nat) (v w : α) : up3 (up3 f c k a v) c k a w = up3 f c k a w := by
  funext c' k' a'
  unfold up3
  by_cases h : c' = c ∧ k' = k ∧ a' = a
  · rw [if_pos h, if_pos h]
  · rw [if_neg h, if_neg h, if_neg h]
section
variable {b : UH} {fi : Nat → Nat → Nat → Int32} {fj : Nat → Nat → Nat → Int64} {ai : Nat → Nat → Int32} {aj : Nat → Nat → Int64} {ar : Nat → Nat → Option Nat} {T : TS} {x1 x2 x3 x4 : Int32} {i j p t h : Nat} {s : Int64}
theorem m_wasThere {n : Nat} {w : Nat → Nat × Nat} {bits : Nat} (hbw : BW bits) (hs : mst b) (h15 : fi 12 15 0 = nI n) (hn : n ≤ 768) (hw : ∀ i, i < n → ai 9 i = nI (32 * (w i).1 + (w i).2) ∧ (w i).1 < 24 ∧ (w i).2 < 2 ^ bits) {a : Nat × Nat} (ha1 : a.1 < 24) (ha2 : a.2 < 2 ^ bits) : wp (fX12_wasThere 0 (nI (32 * a.1 + a.2)) (mk b fi fj ai aj ar)) (fun q => (q = 1 ∧ ∃ j, j < n ∧ w j = a) ∨ (q = 0 ∧ ∀ j, j < n → w j ≠ a)) := by
  have hp2 := (pow_b hbw).2
  unfold fX12_wasThere
  refine wp_oew (Q := fun q => match q with | .inl _ => ∀ j, j < n → w j ≠ a | .inr z => z = 1 ∧ ∃ j, j < n ∧ w j = a) ?_ (fun _ hq => wp_some (Or.inr ⟨rfl, hq⟩)) (fun z hq => wp_some (Or.inl hq))
  refine it1_up1F (show (0 : Int32) = nI 0 from rfl) n (by omega) (fun i => ∀ j, j < i → w j ≠ a) (fun k i hi hI hk => ?_) (Nat.zero_le _) (fun j hj => absurd hj (Nat.not_lt_zero _))
  unfold fX12_wasThere_B2
  refine mI hs (wp_le h15 rfl (by omega) (by omega) (fun hc => wp_some ?_) (fun hc => ?_))
  · have : i = n := by omega
    subst this; exact hI
  obtain ⟨e1, e2, e3⟩ := hw i hc
  refine mR hs rfl (mL hs rfl rfl (by decide) rfl (by omega) ?_)
  rw [e1]
  refine wp_eqq rfl rfl (by omega) (by omega) (fun e => wp_some ⟨rfl, i, hc, cod_inj hbw e3 ha2 e⟩) (fun e => hk hc _ (nI_1 i) (fun j hj => ?_))
  rcases Nat.lt_or_ge j i with h1 | h1
  · exact hI j h1
  · have : j = i := by omega
    subst this
    intro e4
    exact e (by rw [e4])
theorem m_lowO {o : Nat} (ho : o ≤ 15) (h0 : o ≠ 0) : wp (it1 (fX12_follow_B116 (nI o) (mk b fi fj ai aj ar)) FUEL 0) (fun q => ∃ p, q = nI p ∧ p < 4 ∧ lowO o = some p) := by
  have hex : ∃ p, p < 4 ∧ o.testBit p = true := by
    revert h0
    exact (by decide : ∀ o, o ≤ 15 → o ≠ 0 → ∃ p, p < 4 ∧ o.testBit p = true) o ho
  obtain ⟨p0, hp0, ht0⟩ := hex
  refine it1_up1F (show (0 : Int32) = nI 0 from rfl) p0 (by omega) (fun i => ∀ g, g < i → o.testBit g = false) (fun k i hi hI hk => ?_) (Nat.zero_le _) (fun g hg => absurd hg (Nat.not_lt_zero _))
  unfold fX12_follow_B116
  refine wp_bit rfl rfl (by omega) (by omega) (fun hf => hk ?_ _ (nI_1 i) (fun g hg => ?_)) (fun ht => wp_some ⟨i, rfl, by omega, lowO_some (by omega) ht hI⟩)
  · have : i ≠ p0 := fun e => by rw [e, ht0] at hf; cases hf
    omega
  · rcases Nat.lt_or_ge g i with h1 | h1
    · exact hI g h1
    · have : g = i := by omega
      subst this; exact hf
def FoP (T : TS) (st : Nat × Nat) (fi : Nat → Nat → Nat → Int32) (ai : Nat → Nat → Int32) : Prop := ∃ w n e, IsW (tB T) (tL T) (tR T) st w n e ∧ fi 12 15 0 = nI (n + 1) ∧ fi 12 16 0 = nI e ∧ ∀ i, i ≤ n → ai 9 i = nI (32 * (w i).1 + (w i).2)
theorem stp_none {lk : LK} {rb : RB} {a : Nat × Nat} (h : hd (rb (a.1 / 4)) (a.1 % 4) a.2 = none) : stp lk rb a = .inl 2 := by unfold stp; rw [h]
theorem stp_some {lk : LK} {rb : RB} {a : Nat × Nat} {i : Nat} {r : RT} (h : hd (rb (a.1 / 4)) (a.1 % 4) a.2 = some i) (hr : (rb (a.1 / 4))[i]? = some r) : stp lk rb a = match lowO (r 3) with | none => .inl 1 | some o => match lk (4 * (a.1 / 4) + o) with | none => .inl 0 | some q => .inr (q, rw5 r a.2) := by unfold stp; rw [h]; simp only [hr]
theorem m_follow (hW : WF T) (hms : mst b) (hM : MPic T fi ai) (ht : t < 2 ^ tB T) : wp (fX12_follow 0 (nI t) (mk b fi fj ai aj ar)) (fun u => ∃ fi' ai', u = mk b fi' fj ai' aj ar ∧ msI fi fi' ∧ (∀ a, a ≠ 9 → ai' a = ai a) ∧ FoP T ((tI T).1, t) fi' ai') := by
  have hp2 := (pow_b hW.1).2
  have h24 : (tI T).1 < 24 := hW.2.2.2.2.1.1
  unfold fX12_follow
  refine mW hms (mI hms ?_)
  rw [up3_k (by decide), hM.2.2.2.2.2.1.1]
  refine wp_obw (Q := fun u => ∃ fi' ai', u = mk b fi' fj ai' aj ar ∧ msI fi fi' ∧ (∀ a, a ≠ 9 → ai' a = ai a) ∧ FoP T ((tI T).1, t) fi' ai') ?_ (fun u hu => wp_some hu)
  refine it4_gh (I := fun m y2 y3 y4 u => ∃ fi' ai', u = mk b fi' fj ai' aj ar ∧ msI fi fi' ∧ (∀ a, a ≠ 9 → ai' a = ai a) ∧ ((y4 = 0 ∧ FoP T ((tI T).1, t) fi' ai') ∨ (y4 = 1 ∧ ∃ w n, m = 768 - n ∧ ChW (tB T) (tL T) (tR T) ((tI T).1, t) w n ∧ y2 = nI (w n).1 ∧ y3 = nI (w n).2 ∧ fi' 12 15 0 = nI n ∧ ∀ i, i < n → ai' 9 i = nI (32 * (w i).1 + (w i).2)))) (fun k m y2 y3 y4 u hI hk => ?_) FUEL 768 _ _ _ _ ⟨_, ai, rfl, fun k hk => up3_k (by omega), fun _ _ => rfl, Or.inr ⟨rfl, fun _ => ((tI T).1, t), 0, rfl, ⟨rfl, fun i _ => ⟨h24, ht⟩, fun i hi => absurd hi (Nat.not_lt_zero _), fun i j hij hj => by omega⟩, rfl, rfl, up3_s, fun i hi => absurd hi (Nat.not_lt_zero _)⟩⟩ (by unfold FUEL; omega)
  obtain ⟨fi', ai', rfl, hmi, hma, hI⟩ := hI
  unfold fX12_follow_B15
  rcases hI with ⟨rfl, hF⟩ | ⟨rfl, w, n, rfl, hC, rfl, rfl, h15, hw9⟩
  · exact wp_t rfl (wp_some ⟨fi', ai', rfl, hmi, hma, hF⟩)
  have hn := hC.lt hW.1
  obtain ⟨hr1, hr2⟩ := hC.2.1 n (Nat.le_refl _)
  have hM' : MPic T fi' ai' := hM.sc hmi (fun a ha => hma a (by omega))
  have hp1 := hr1
  generalize hwn : w n = a at *
  have hb6 : a.1 / 4 < 6 := by omega
  have h4 : a.1 % 4 < 4 := Nat.mod_lt _ (by decide)
  have hl6 := (hW.2.2.1 (a.1 / 4) hb6).1
  refine wp_f (by decide) (mR hms rfl (mI hms ?_))
  rw [h15, pl32]
  refine mS hms rfl rfl (by decide) rfl (by omega) (mI hms (mW hms (wp_lt ?_)))
  rw [h15, nI_1 n, dv4 (by omega), rm4 (by omega)]
  generalize hfi2 : up3 fi' 12 15 0 (nI (n + 1)) = fi2
  generalize hai2 : up2 ai' 9 n (nI (32 * a.1 + a.2)) = ai2
  have e15 : fi2 12 15 0 = nI (n + 1) := by rw [← hfi2]; exact up3_s
  have hmi2 : msI fi fi2 := fun k hk => by rw [← hfi2, up3_k (by omega)]; exact hmi k hk
  have hma2 : ∀ a, a ≠ 9 → ai2 a = ai a := fun a' ha => by rw [← hai2, up2_a ha]; exact hma a' ha
  have hM2 : MPic T fi2 ai2 := hM.sc hmi2 (fun a ha => hma2 a (by omega))
  have hw92 : ∀ i, i < n + 1 → ai2 9 i = nI (32 * (w i).1 + (w i).2) := fun i hi => by
    rw [← hai2, up2_is]
    by_cases e : i = n
    · rw [if_pos e, e, hwn]
    · rw [if_neg e]; exact hw9 i (by omega)
  have fin : ∀ e : Nat, IsW (tB T) (tL T) (tR T) ((tI T).1, t) w n e → ∀ y2 y3 : Int32, wp (k y2 y3 0 (mk b (up3 fi2 12 16 0 (nI e)) fj ai2 aj ar)) (fun u => ∃ fi' ai', u = mk b fi' fj ai' aj ar ∧ msI fi fi' ∧ (∀ a, a ≠ 9 → ai' a = ai a) ∧ FoP T ((tI T).1, t) fi' ai') := fun e hE y2 y3 =>
    hk (768 - (n + 1)) y2 y3 0 _ (by omega) ⟨_, ai2, rfl, fun k hk => by rw [up3_k (by omega)]; exact hmi2 k hk, hma2, Or.inl ⟨rfl, w, n, e, hE, by rw [up3_k (by decide)]; exact e15, up3_s, fun i hi => hw92 i (by omega)⟩⟩
  refine mE hms (m_handler hms hM2.2.2.2.1 hW.1 hW.2.2.1 rfl hb6 rfl h4 rfl (by omega)) ?_
  cases hhd : hd (tR T (a.1 / 4)) (a.1 % 4) a.2 with
  | none =>
    refine wp_f (by decide) ?_
    unfold fX12_follow_80
    refine wp_t rfl ?_
    unfold fX12_follow_92
    refine wp_f (by decide) ?_
    unfold fX12_follow_105
    exact mW hms (wp_t rfl (fin 2 ⟨hC, Or.inl ⟨by rw [hwn]; exact stp_none hhd, by decide⟩⟩ _ _))
  | some i =>
    obtain ⟨r, hr, -⟩ := hd_some hhd
    have hi := hd_lt hhd
    have hrw := (hW.2.2.1 (a.1 / 4) hb6).2 r (List.mem_of_getElem? hr)
    have hst := stp_some (lk := tL T) (a := a) hhd hr
    refine wp_t (nI_pos' (by omega)) (mE hms (m_ofr (f := 3) hms hM2.2.2.2.1 hl6 rfl rfl rfl hb6 hr (by decide)) ?_)
    have h15' := hrw.2.2.2.2.2.1
    unfold fX12_follow_80
    refine wp_eqq (b := 0) rfl rfl (by omega) (by decide) (fun e0 => ?_) (fun e0 => ?_)
    · unfold fX12_follow_92
      refine wp_t (nI_pos' (by omega)) ?_
      unfold fX12_follow_105
      refine mW hms (wp_t rfl (fin 1 ⟨hC, Or.inl ⟨?_, by decide⟩⟩ _ _))
      rw [hwn, hst, e0]; rfl
    · unfold fX12_follow_92
      refine wp_t (nI_pos' (by omega)) ?_
      unfold fX12_follow_105
      refine mW hms (wp_f (by decide) (wp_obw (m_lowO h15' e0) (fun q hq => ?_)))
      obtain ⟨o, rfl, ho, hlo⟩ := hq
      rw [hlo] at hst
      have hM3 : MPic T (up3 fi2 12 16 0 1) ai2 := hM2.sc (fun k hk => up3_k (by omega)) (fun _ _ => rfl)
      refine mE hms (m_rewritten hms hM3.2.2.2.1 hW.1 hW.2.2.1 rfl hb6 rfl hr rfl (by omega)) ?_
      rw [pl1]
      refine mR hms rfl (mL hms rfl rfl (by decide) rfl (by omega) ?_)
      rw [hM3.2.1 _ (by omega)]
      cases hlk : tL T (4 * (a.1 / 4) + o) with
      | none =>
        refine wp_f (by decide) ?_
        unfold fX12_follow_165
        refine mW hms (wp_t (by decide) ?_)
        rw [show up3 (up3 fi2 12 16 0 1) 12 16 0 0 = up3 fi2 12 16 0 (nI 0) from up3_3 _ _ _ _ _ _]
        refine fin 0 ⟨hC, Or.inl ⟨?_, by decide⟩⟩ _ _
        rw [hwn, hst]; simp only [hlk]
      | some q =>
        have hq := (hW.2.1 _ _ hlk).2.1
        have hg : rw5 r a.2 < 2 ^ tB T := rw5_lt hW.1 hrw hr2
        have hst2 : stp (tL T) (tR T) a = .inr (q, rw5 r a.2) := by rw [hst]; simp only [hlk]
        refine wp_t (nI_pos' (by omega)) ?_
        unfold fX12_follow_165
        refine mW hms (wp_f (nI_pos (by omega)) ?_)
        rw [show up3 (up3 fi2 12 16 0 1) 12 16 0 3 = up3 fi2 12 16 0 (nI 3) from up3_3 _ _ _ _ _ _]
        show wp (ob (kd _ 12 0 (fX12_wasThere 0 (((32 : Int32) * nI q) + nI (rw5 r a.2)) _)) _) _
        rw [pl32]
        refine mKw hms (m_wasThere (n := n + 1) (w := w) hW.1 hms (by rw [up3_k (by decide)]; exact e15) (by omega) (fun i hi => ⟨hw92 i hi, hC.2.1 i (by omega)⟩) (a := (q, rw5 r a.2)) hq hg) (fun z hz => ?_)
        rcases hz with ⟨rfl, j, hj, hwj⟩ | ⟨rfl, hno⟩
        · refine wp_f (by decide) (fin 3 ⟨hC, Or.inr ⟨rfl, j, by omega, ?_⟩⟩ _ _)
          rw [hwn, hst2, hwj]
        · have hn1 : ∀ i, i ≤ n → (fun i => if i = n + 1 then (q, rw5 r a.2) else w i) i = w i := fun i hi => if_neg (by omega)
          have hC' : ChW (tB T) (tL T) (tR T) ((tI T).1, t) (fun i => if i = n + 1 then (q, rw5 r a.2) else w i) (n + 1) := by
            refine ⟨by rw [hn1 0 (Nat.zero_le _)]; exact hC.1, fun i hi => ?_, fun i hi => ?_, fun i j hij hj => ?_⟩
            · by_cases e : i = n + 1
              · dsimp only; rw [if_pos e]; exact ⟨hq, hg⟩
              · rw [hn1 i (by omega)]; exact hC.2.1 i (by omega)
            · rw [hn1 i (by omega)]
              by_cases e : i = n
              · dsimp only; rw [e, if_pos rfl, hwn]; exact hst2
              · rw [hn1 (i + 1) (by omega)]; exact hC.2.2.1 i (by omega)
            · rw [hn1 i (by omega)]
              by_cases e : j = n + 1
              · dsimp only; rw [if_pos e]; exact hno i (by omega)
              · rw [hn1 j (by omega)]; exact hC.2.2.2 i j hij (by omega)
          have hlt := hC'.lt hW.1
          refine wp_t rfl (hk (768 - (n + 1)) _ _ 1 _ (by omega) ⟨_, ai2, rfl, fun k hk => by rw [up3_k (by omega)]; exact hmi2 k hk, hma2, Or.inr ⟨rfl, _, n + 1, rfl, hC', ?_, ?_, by rw [up3_k (by decide)]; exact e15, fun i hi => by rw [if_neg (by omega)]; exact hw92 i hi⟩⟩)
          · rw [if_pos rfl]; rfl
          · rw [if_pos rfl]
/-- the class's walk, at the arrival g -/
def WkP (fi : Nat → Nat → Nat → Int32) (aj : Nat → Nat → Int64) (w : Nat → Nat × Nat) (g : Nat) : Prop := fi 10 2 51 = nI (w g).1 ∧ fi 10 3 51 = nI (w g).2
def WkS (aj : Nat → Nat → Int64) (w : Nat → Nat × Nat) (g : Nat) : Prop := ∀ q, q < 24 → ∀ x, x < 32 → (tb (aj 52 q) x = true ↔ ∃ j, j ≤ g ∧ w j = (q, x))
theorem x_goOnce {w : Nat → Nat × Nat} {st : Nat × Nat} {n e g : Nat} (hs : xst b) (hW : WF T) (hP : XPic T b fi fj ai ar) (hw : IsW (tB T) (tL T) (tR T) st w n e) (hg : g ≤ n) (hK : WkP fi aj w g) (hS : WkS aj w g) (h4 : fi 10 4 51 = 4) : wp (fX10_goOnce 51 (mk b fi fj ai aj ar)) (fun u => ∃ fi' aj', u = mk b fi' fj ai aj' ar ∧ (∀ c k a, c ≠ 10 → fi' c k a = fi c k a) ∧ ((g < n ∧ fi' 10 4 51 = 4 ∧ WkP fi' aj' w (g + 1) ∧ WkS aj' w (g + 1)) ∨ (g = n ∧ fi' 10 4 51 = nI e ∧ WkP fi' aj' w g))) := by
  have hp2 := (pow_b hW.1).2
  obtain ⟨hC, hE⟩ := hw
  obtain ⟨hr1, hr2⟩ := hC.2.1 g hg
  obtain ⟨hK1, hK2⟩ := hK
  generalize hwg : w g = a at *
  have hb6 : a.1 / 4 < 6 := by omega
  have h4' : a.1 % 4 < 4 := Nat.mod_lt _ (by decide)
  have hL := hP.2.2.2.2.1 (a.1 / 4) hb6
  have hA := LA_box (a.1 / 4) hb6
  have hRW := (hW.2.2.1 (a.1 / 4) hb6).2
  have h6 := hL.2.1
  have stop : ∀ e', stp (tL T) (tR T) a = .inl e' → g = n ∧ e = e' := by
    intro e' he
    have hgn : g = n := by
      rcases Nat.lt_or_ge g n with h | h
      · have := hC.2.2.1 g h
        rw [hwg, he] at this; cases this
      · omega
    subst hgn
    rw [hwg] at hE
    rcases hE with ⟨h1, _⟩ | ⟨_, j, _, h1⟩
    · rw [he] at h1; cases h1; exact ⟨rfl, rfl⟩
    · rw [he] at h1; cases h1
  have ended : ∀ e', stp (tL T) (tR T) a = .inl e' → ∃ fi' aj', mk b (up3 fi 10 4 51 (nI e')) fj ai aj ar = mk b fi' fj ai aj' ar ∧ (∀ c k a, c ≠ 10 → fi' c k a = fi c k a) ∧ ((g < n ∧ fi' 10 4 51 = 4 ∧ WkP fi' aj' w (g + 1) ∧ WkS aj' w (g + 1)) ∨ (g = n ∧ fi' 10 4 51 = nI e ∧ WkP fi' aj' w g)) := by
    intro e' he
    obtain ⟨h1, h2⟩ := stop e' he
    refine ⟨_, aj, rfl, fun c k a hc => up3_c hc, Or.inr ⟨h1, by rw [up3_s, h2], ?_, ?_⟩⟩
    · rw [up3_k (by decide), hwg]; exact hK1
    · rw [up3_k (by decide), hwg]; exact hK2
  unfold fX10_goOnce
  refine oi (hs.1 51 11 rfl) (wp_lt ?_)
  rw [hK1, dv4 (by omega)]
  refine oR (hs.1 51 11 rfl) (hs.2.2 10 0 51 1 rfl) (oR (hs.1 1 5 rfl) (hs.2.2 4 3 1 3 rfl) (oLR (hs.1 3 26 rfl) (hs.2.1 3 6 rfl) rfl hb6 (by decide) (hP.1.1 _ hb6) (oi (hs.1 51 11 rfl) (oi (hs.1 51 11 rfl) ?_))))
  rw [hK1, hK2, rm4 (by omega)]
  refine oE (hs.1 _ _ hA.1) (x_handler0 hs hA hL hRW rfl h4' rfl (by omega)) ?_
  cases hhd : hd (tR T (a.1 / 4)) (a.1 % 4) a.2 with
  | none => exact wp_t rfl (oW (hs.1 51 11 rfl) (wp_some (ended 2 (stp_none hhd))))
  | some i =>
    obtain ⟨r, hr, -⟩ := hd_some hhd
    have hi := hd_lt hhd
    have hrw := hRW r (List.mem_of_getElem? hr)
    have hst := stp_some (lk := tL T) (a := a) hhd hr
    obtain ⟨ra, e1, e2⟩ := hL.2.2.2 i r hr
    refine wp_f (fun z => by have := (oI_m1 (o := some i) (fun q hq => by cases hq; omega)).mp z; cases this) ?_
    refine oR (hs.1 _ _ hA.1) (hs.2.2 _ _ _ _ hA.2.2.2) (oLR (hs.1 _ _ hA.2.1) (hs.2.1 _ _ hA.2.2.1) rfl (by omega) (by decide) e1 (oE e2.1 (x_lowestOutput e2 hrw) ?_))
    cases hlo : lowO (r 3) with
    | none =>
      rw [hlo] at hst
      exact wp_t rfl (oW (hs.1 51 11 rfl) (wp_some (ended 1 hst)))
    | some o =>
      have ho := (lowO_spec hlo).1
      rw [hlo] at hst
      refine wp_f (fun z => by have := (oI_m1 (o := some o) (fun q hq => by cases hq; omega)).mp z; cases this) ?_
      refine oR (hs.1 51 11 rfl) (hs.2.2 10 0 51 1 rfl) (oR (hs.1 1 5 rfl) (hs.2.2 4 2 1 2 rfl) (wp_obe (x_placeOf (j := o) _ rfl rfl) (oL (hs.1 2 20 rfl) (hs.2.1 2 24 rfl) rfl (by omega) (by decide) ?_)))
      rw [hP.2.2.1 _ (by omega)]
      cases hlk : tL T (4 * (a.1 / 4) + o) with
      | none => exact wp_t rfl (oW (hs.1 51 11 rfl) (wp_some (ended 0 (by rw [hst]; simp only [hlk]))))
      | some q =>
        have hq := (hW.2.1 _ _ hlk).2.1
        have hg2 : rw5 r a.2 < 2 ^ tB T := rw5_lt hW.1 hrw hr2
        have hst2 : stp (tL T) (tR T) a = .inr (q, rw5 r a.2) := by rw [hst]; simp only [hlk]
        refine wp_f (fun z => by have := (oI_m1 (o := some q) (fun q hq => by cases hq; omega)).mp z; cases this) ?_
        refine oR (hs.1 51 11 rfl) (hs.2.2 10 1 51 52 rfl) (oLJ (hs.1 52 21 rfl) (hs.2.1 52 24 rfl) (i := q) rfl hq (by decide) (oi (hs.1 51 11 rfl) ?_))
        rw [hK2]
        refine oE e2.1 (x_rewritten e2 hW.1 hrw rfl (by omega)) (wp_obe (x_hasHeader _ rfl (by omega)) ?_)
        cases htb : tb (aj 52 q) (rw5 r a.2) with
        | false =>
          have hgn : g < n := by
            rcases Nat.lt_or_ge g n with h | h
            · exact h
            · have : g = n := by omega
              subst this
              rw [hwg, hst2] at hE
              rcases hE with ⟨h1, _⟩ | ⟨_, j, hj, h1⟩
              · cases h1
              · have h2 := (hS q hq _ (by omega)).mpr ⟨j, hj, (Sum.inr.inj h1).symm⟩
                rw [htb] at h2; cases h2
          have hnx : w (g + 1) = (q, rw5 r a.2) := by
            have := hC.2.2.1 g hgn
            rw [hwg, hst2] at this
            exact (Sum.inr.inj this).symm
          refine wp_t rfl (oi (hs.1 51 11 rfl) ?_)
          rw [hK2]
          refine oE e2.1 (x_rewritten e2 hW.1 hrw rfl (by omega)) (oW (hs.1 51 11 rfl) (oW (hs.1 51 11 rfl) (oR (hs.1 51 11 rfl) (hs.2.2 10 1 51 52 rfl) (oi (hs.1 51 11 rfl) ?_))))
          rw [up3_s]
          refine oLJ (hs.1 52 21 rfl) (hs.2.1 52 24 rfl) (i := q) rfl hq (by decide) (oi (hs.1 51 11 rfl) ?_)
          rw [up3_k (by decide), up3_s]
          refine oSJ (hs.1 52 21 rfl) (hs.2.1 52 24 rfl) (i := q) rfl hq (by decide) (wp_some ⟨_, _, rfl, fun c k a hc => by rw [up3_c hc, up3_c hc], Or.inl ⟨hgn, ?_, ⟨?_, ?_⟩, fun q' hq' x hx => ?_⟩⟩)
          · rw [up3_k (by decide), up3_k (by decide)]; exact h4
          · rw [up3_s, hnx]; rfl
          · rw [up3_k (by decide), up3_s, hnx]
          · rw [up2_is]
            by_cases e : q' = q
            · rw [if_pos e, tb_orT _ (by omega), hS q hq x hx]
              constructor
              · rintro (⟨j, hj, H⟩ | H)
                · exact ⟨j, by omega, by rw [e]; exact H⟩
                · exact ⟨g + 1, Nat.le_refl _, by rw [hnx, e, H]⟩
              · rintro ⟨j, hj, H⟩
                rcases Nat.lt_or_ge g j with h | h
                · have : j = g + 1 := by omega
                  rw [this, hnx] at H
                  exact Or.inr (Prod.ext_iff.mp H).2.symm
                · exact Or.inl ⟨j, h, by rw [H, e]⟩
            · rw [if_neg e, hS q' hq' x hx]
              constructor
              · rintro ⟨j, hj, H⟩; exact ⟨j, by omega, H⟩
              · rintro ⟨j, hj, H⟩
                rcases Nat.lt_or_ge g j with h | h
                · have : j = g + 1 := by omega
                  rw [this, hnx] at H
                  exact absurd (Prod.ext_iff.mp H).1.symm e
                · exact ⟨j, h, H⟩
        | true =>
          obtain ⟨j, hj, hwj⟩ := (hS q hq _ (by omega)).mp htb
          have hgn : g = n := by
            rcases Nat.lt_or_ge g n with h | h
            · have h1 := hC.2.2.1 g h
              rw [hwg, hst2] at h1
              exact absurd (hwj.trans (Sum.inr.inj h1)) (hC.2.2.2 j (g + 1) (by omega) (by omega))
            · omega
          have he : e = 3 := by
            subst hgn
            rw [hwg, hst2] at hE
            rcases hE with ⟨h1, _⟩ | ⟨h1, _⟩
            · cases h1
            · exact h1
          refine wp_f (by decide) (oW (hs.1 51 11 rfl) (wp_some ⟨_, aj, rfl, fun c k a hc => up3_c hc, Or.inr ⟨hgn, by rw [up3_s, he]; rfl, ?_, ?_⟩⟩))
          · rw [up3_k (by decide), hwg]; exact hK1
          · rw [up3_k (by decide), hwg]; exact hK2
theorem x_go {w : Nat → Nat × Nat} {n e mo : Nat} (hs : xst b) (hW : WF T) (hP : XPic T b fi fj ai ar) (ht : t < 2 ^ tB T) (hw : IsW (tB T) (tL T) (tR T) ((tI T).1, t) w n e) (hmo : mo ≤ 768) (h3 : x3 = nI mo) : wp (fX10_go 51 (fi 11 10 0) (nI t) x3 (mk b fi fj ai aj ar)) (fun q => ∃ fi' aj', q.2 = mk b fi' fj ai aj' ar ∧ (∀ c k a, c ≠ 10 → fi' c k a = fi c k a) ∧ ∃ g, q.1 = nI g ∧ g = min mo n ∧ WkP fi' aj' w g ∧ (n < mo → fi' 10 4 51 = nI e)) := by
  have hp2 := (pow_b hW.1).2
  have h24 : (tI T).1 < 24 := hW.2.2.2.2.1.1
  have hen : fi 11 10 0 = nI (tI T).1 := hP.2.2.2.2.2.2.1.1
  have hn := hw.1.lt hW.1
  have hw0 := hw.1.1
  rw [hen, h3]
  unfold fX10_go
  refine oR (hs.1 51 11 rfl) (hs.2.2 10 1 51 52 rfl) (wp_obe (j_fillJ (hs.1 52 21 rfl) (hs.2.1 52 24 rfl) (by decide) _) (oW (hs.1 51 11 rfl) (oW (hs.1 51 11 rfl) (oR (hs.1 51 11 rfl) (hs.2.2 10 1 51 52 rfl) (oSJ (hs.1 52 21 rfl) (hs.2.1 52 24 rfl) rfl h24 (by decide) (oW (hs.1 51 11 rfl) ?_))))))
  refine wp_oew (Q := fun q => match q with | .inl u => ∃ fi' aj', u = mk b fi' fj ai aj' ar ∧ (∀ c k a, c ≠ 10 → fi' c k a = fi c k a) ∧ mo ≤ n ∧ WkP fi' aj' w mo | .inr q => ∃ fi' aj', q.2 = mk b fi' fj ai aj' ar ∧ (∀ c k a, c ≠ 10 → fi' c k a = fi c k a) ∧ ∃ g, q.1 = nI g ∧ g = min mo n ∧ WkP fi' aj' w g ∧ (n < mo → fi' 10 4 51 = nI e)) ?_ (fun u hu => ?_) (fun q hq => wp_some hq)
  · refine it2_up1F (show (0 : Int32) = nI 0 from rfl) mo (by omega) (fun g u => g ≤ n ∧ ∃ fi' aj', u = mk b fi' fj ai aj' ar ∧ (∀ c k a, c ≠ 10 → fi' c k a = fi c k a) ∧ fi' 10 4 51 = 4 ∧ WkP fi' aj' w g ∧ WkS aj' w g) (fun k g u hg hI hk => ?_) (Nat.zero_le _) ⟨Nat.zero_le _, _, _, rfl, fun c k a hc => by rw [up3_c hc, up3_c hc, up3_c hc], up3_s, ⟨?_, ?_⟩, fun q hq x hx => ?_⟩
    · obtain ⟨hgn, fi', aj', rfl, hf, h4, hK, hS⟩ := hI
      unfold fX10_go_B35
      refine wp_le rfl rfl (by omega) (by omega) (fun hc => wp_some ?_) (fun hc => ?_)
      · have : g = mo := by omega
        subst this; exact ⟨fi', aj', rfl, hf, hgn, hK⟩
      refine oKw (hs.1 51 11 rfl) (x_goOnce hs hW (hP.sc (fun c k a hc => hf c k a (by omega)) xsJ.refl xsA.refl) hw hgn hK hS h4) (fun u hu => ?_)
      obtain ⟨fi2, aj2, rfl, hf2, hu⟩ := hu
      refine oi (hs.1 51 11 rfl) ?_
      rcases hu with ⟨c1, c2, c3, c4⟩ | ⟨c1, c2, c3⟩
      · exact wp_t c2 (hk hc _ _ (nI_1 g) ⟨by omega, fi2, aj2, rfl, fun c k a h => by rw [hf2 c k a h, hf c k a h], c2, c3, c4⟩)
      · have he3 : e ≤ 3 := by
          rcases hw.2 with ⟨_, h⟩ | ⟨h, _⟩ <;> omega
        refine wp_f (fun z => ?_) (wp_some ⟨fi2, aj2, rfl, fun c k a h => by rw [hf2 c k a h, hf c k a h], g, rfl, by omega, c3, fun _ => c2⟩)
        rw [c2] at z
        have := (nI_eq (a := e) (b := 4) (by omega) (by decide)).mp z
        omega
    · rw [up3_k (by decide), up3_k (by decide), up3_s, hw0]
    · rw [up3_k (by decide), up3_s, hw0]
    · rw [up2_is]
      by_cases e : q = (tI T).1
      · rw [if_pos e, tb_sg (by omega)]
        constructor
        · intro H; exact ⟨0, Nat.le_refl _, by rw [hw0, e, H]⟩
        · rintro ⟨j, hj, H⟩
          have : j = 0 := by omega
          rw [this, hw0] at H
          exact (Prod.ext_iff.mp H).2.symm
      · rw [if_neg e, filA_i hq, tb_0]
        constructor
        · intro H; cases H
        · rintro ⟨j, hj, H⟩
          have : j = 0 := by omega
          rw [this, hw0] at H
          exact absurd (Prod.ext_iff.mp H).1.symm e
  · obtain ⟨fi', aj', rfl, hf, h1, h2⟩ := hu
    exact wp_some ⟨fi', aj', rfl, hf, mo, rfl, by omega, h2, fun h => by omega⟩
end
section PUB
variable {T : TS} {x m : UH} {x1 x2 x3 x4 x5 x6 : Int32}
theorem XP_10 {b : UH} {fi fi' : Nat → Nat → Nat → Int32} {fj : Nat → Nat → Nat → Int64} {ai : Nat → Nat → Int32} {ar : Nat → Nat → Option Nat} (hP : XPic T b fi fj ai ar) (hf : ∀ c k a, c ≠ 10 → fi' c k a = fi c k a) : XPic T b fi' fj ai ar := hP.sc (fun c k a hc => hf c k a (by omega)) xsJ.refl xsA.refl
theorem s_trace (hR : RR T x m) : SIM T (fX11_trace 0 x1 x2 x) (fX12_trace 0 x1 x2 m) := by
  obtain ⟨hW, ⟨hs, hd, hP⟩, hms, hM⟩ := hR
  have hp2 := (pow_b hW.1).2
  rcases inj_or hW hs hP hms hM x1 with ⟨t, ht, rfl, hin, i1, i2⟩ | ⟨i1, i2⟩
  · by_cases h0 : x2 < 0
    · have h0' : ¬ (0 : Int32) ≤ x2 := fun z => by
        have h1 := Int32.lt_iff_toInt_lt.mp h0
        have h2 := Int32.le_iff_toInt_le.mp z
        omega
      refine sim (T' := T) (r := -3) hW ?_ ?_
      · show wp (fX11_trace 0 (nI t) x2 (mk x (uI x) (uJ x) (uAI x) (uAJ x) (uAR x))) _
        unfold fX11_trace
        exact oE (hs.1 0 12 rfl) i1 (wp_f (by decide) (wp_f h0' (wp_some ⟨rfl, hs, hd, hP⟩)))
      · show wp (fX12_trace 0 (nI t) x2 (mk m (uI m) (uJ m) (uAI m) (uAJ m) (uAR m))) _
        unfold fX12_trace
        exact mE hms i2 (wp_f (by decide) (wp_f h0' (wp_some ⟨rfl, hms, hM⟩)))
    · obtain ⟨k, hk31, rfl⟩ := nI_of h0
      obtain ⟨u, e1, fi1, ai1, rfl, hmi, hma, w, n, e, hw, h15, h16, h9⟩ := m_follow (fj := uJ m) (aj := uAJ m) (ar := uAR m) hW hms hM ht
      have hn := hw.1.lt hW.1
      refine sim (T' := T) (r := if k ≤ n then nI (1000 * ((w k).1 / 4) + 100 * ((w k).1 % 4) + (w k).2) else -6) hW ?_ ?_
      · show wp (fX11_trace 0 (nI t) (nI k) (mk x (uI x) (uJ x) (uAI x) (uAJ x) (uAR x))) _
        unfold fX11_trace
        refine oE (hs.1 0 12 rfl) i1 (wp_f (by decide) (wp_t (nI_pos' hk31) (oR (hs.1 0 12 rfl) (hs.2.2 11 4 0 51 rfl) (oi (hs.1 0 12 rfl) ?_))))
        refine oK2 (hs.1 51 11 rfl) (x_go hs hW hP ht hw (mo := min k 768) (by omega) (jmin_n hk31 (by decide))) (fun z u hq => ?_)
        obtain ⟨fi2, aj2, e2, hf, g, e3, e4, ⟨e5, e6⟩, _⟩ := hq
        dsimp only at e2 e3
        subst e2; subst e3
        refine wp_le rfl rfl (by omega) (by omega) (fun hc => ?_) (fun hc => ?_)
        · have hkn : k ≤ n := by omega
          have hgk : g = k := by omega
          subst hgk
          obtain ⟨hr1, hr2⟩ := hw.1.2.1 g hkn
          refine oR (hs.1 0 12 rfl) (hs.2.2 11 4 0 51 rfl) (oi (hs.1 51 11 rfl) (oR (hs.1 0 12 rfl) (hs.2.2 11 4 0 51 rfl) (oi (hs.1 51 11 rfl) (oR (hs.1 0 12 rfl) (hs.2.2 11 4 0 51 rfl) (oi (hs.1 51 11 rfl) (wp_some ⟨?_, XR_mk hs hd (XP_10 hP hf)⟩))))))
          dsimp only
          rw [if_pos hkn, e5, e6, dv4 (by omega), rm4 (by omega)]
          show nI 1000 * nI _ + nI 100 * nI _ + nI _ = _
          rw [pk_mul, pk_mul, nI_add, nI_add]
        · exact wp_some ⟨by rw [if_neg (by omega)], XR_mk hs hd (XP_10 hP hf)⟩
      · show wp (fX12_trace 0 (nI t) (nI k) (mk m (uI m) (uJ m) (uAI m) (uAJ m) (uAR m))) _
        unfold fX12_trace
        refine mE hms i2 (wp_f (by decide) (wp_t (nI_pos' hk31) (mE hms e1 (mI hms ?_))))
        have hM1 : MR T (mk m fi1 (uJ m) ai1 (uAJ m) (uAR m)) := MR_mk hms (hM.sc hmi (fun a ha => hma a (by omega)))
        refine wp_ltt rfl h15 hk31 (by omega) (fun hc => ?_) (fun hc => wp_some ⟨by rw [if_neg (by omega)], hM1⟩)
        have hkn : k ≤ n := by omega
        obtain ⟨hr1, hr2⟩ := hw.1.2.1 k hkn
        refine mR hms rfl (mL hms rfl rfl (by decide) rfl (by omega) (wp_lt (mR hms rfl (mL hms rfl rfl (by decide) rfl (by omega) (wp_some ⟨?_, hM1⟩)))))
        dsimp only
        rw [if_pos hkn, h9 k hkn, show (32 : Int32) = nI 32 from rfl, dv (by omega) (by decide) (by decide), rm (by omega) (by decide) (by decide), show (32 * (w k).1 + (w k).2) / 32 = (w k).1 by omega, show (32 * (w k).1 + (w k).2) % 32 = (w k).2 by omega, dv4 (by omega), rm4 (by omega)]
        show nI 1000 * nI _ + nI 100 * nI _ + nI _ = _
        rw [pk_mul, pk_mul, nI_add, nI_add]
  · refine sim (T' := T) (r := -3) hW ?_ ?_
    · show wp (fX11_trace 0 x1 x2 (mk x (uI x) (uJ x) (uAI x) (uAJ x) (uAR x))) _
      unfold fX11_trace
      exact oE (hs.1 0 12 rfl) i1 (wp_t rfl (wp_some ⟨rfl, hs, hd, hP⟩))
    · show wp (fX12_trace 0 x1 x2 (mk m (uI m) (uJ m) (uAI m) (uAJ m) (uAR m))) _
      unfold fX12_trace
      exact mE hms i2 (wp_t rfl (wp_some ⟨rfl, hms, hM⟩))
theorem s_traceEnd (hR : RR T x m) : SIM T (fX11_traceEnd 0 x1 x) (fX12_traceEnd 0 x1 m) := by
  obtain ⟨hW, ⟨hs, hd, hP⟩, hms, hM⟩ := hR
  rcases inj_or hW hs hP hms hM x1 with ⟨t, ht, rfl, hin, i1, i2⟩ | ⟨i1, i2⟩
  · obtain ⟨u, e1, fi1, ai1, rfl, hmi, hma, w, n, e, hw, h15, h16, h9⟩ := m_follow (fj := uJ m) (aj := uAJ m) (ar := uAR m) hW hms hM ht
    have hn := hw.1.lt hW.1
    refine sim (T' := T) (r := nI e) hW ?_ ?_
    · show wp (fX11_traceEnd 0 (nI t) (mk x (uI x) (uJ x) (uAI x) (uAJ x) (uAR x))) _
      unfold fX11_traceEnd
      refine oE (hs.1 0 12 rfl) i1 (wp_f (by decide) (oR (hs.1 0 12 rfl) (hs.2.2 11 4 0 51 rfl) (oi (hs.1 0 12 rfl) ?_)))
      refine oK2 (hs.1 51 11 rfl) (x_go hs hW hP ht hw (mo := 768) (by omega) rfl) (fun z u hq => ?_)
      obtain ⟨fi2, aj2, e2, hf, g, e3, e4, _, e5⟩ := hq
      dsimp only at e2 e3
      subst e2; subst e3
      exact oR (hs.1 0 12 rfl) (hs.2.2 11 4 0 51 rfl) (oi (hs.1 51 11 rfl) (wp_some ⟨e5 hn, XR_mk hs hd (XP_10 hP hf)⟩))
    · show wp (fX12_traceEnd 0 (nI t) (mk m (uI m) (uJ m) (uAI m) (uAJ m) (uAR m))) _
      unfold fX12_traceEnd
      exact mE hms i2 (wp_f (by decide) (mE hms e1 (mI hms (wp_some ⟨h16, MR_mk hms (hM.sc hmi (fun a ha => hma a (by omega)))⟩))))
  · refine sim (T' := T) (r := -3) hW ?_ ?_
    · show wp (fX11_traceEnd 0 x1 (mk x (uI x) (uJ x) (uAI x) (uAJ x) (uAR x))) _
      unfold fX11_traceEnd
      exact oE (hs.1 0 12 rfl) i1 (wp_t rfl (wp_some ⟨rfl, hs, hd, hP⟩))
    · show wp (fX12_traceEnd 0 x1 (mk m (uI m) (uJ m) (uAI m) (uAJ m) (uAR m))) _
      unfold fX12_traceEnd
      exact mE hms i2 (wp_t rfl (wp_some ⟨rfl, hms, hM⟩))
end PUB
