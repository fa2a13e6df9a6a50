theorem it1_gh {α1 E : Type} {b : (α1 → Option E) → α1 → Option E} {P : E → Prop} (I : Nat → α1 → Prop) (hb : ∀ (k : α1 → Option E) n x1, I n x1 → (∀ m y1, m < n → I m y1 → wp (k y1) P) → wp (b k x1) P) : ∀ F n x1, I n x1 → n < F → wp (it1 b F x1) P := by
  intro F
  induction F with
  | zero => intro n x1 _ h; exact absurd h (Nat.not_lt_zero _)
  | succ F ih => intro n x1 hi h; exact hb (it1 b F) n x1 hi (fun m y1 hm hi2 => ih m y1 hi2 (by omega))
/-! lists of slots: one more, the order in which they are tried -/
theorem g0_lt {P : List Nat} {v i : Nat} (h : i < P.length) : g0 (P ++ [v]) i = g0 P i := by
  unfold g0
  rw [List.getD_eq_getElem?_getD, List.getD_eq_getElem?_getD, List.getElem?_append_left h]
theorem g0_eq {P : List Nat} {v : Nat} : g0 (P ++ [v]) P.length = v := by
  unfold g0
  rw [List.getD_eq_getElem?_getD, List.getElem?_append_right (Nat.le_refl _), Nat.sub_self]
  rfl
theorem len_app {P : List Nat} {v : Nat} : (P ++ [v]).length = P.length + 1 := by simp
def enc (Q : List Nat) : Nat := g0 Q 0 * 1444 + g0 Q 1 * 38 + g0 Q 2
theorem enc_a {v v' : Nat} (hv : v < v') : ∀ {P : List Nat}, P.length ≤ 2 → enc (P ++ [v]) < enc (P ++ [v'])
  | [], _ => by show v * 1444 + 0 * 38 + 0 < v' * 1444 + 0 * 38 + 0; omega
  | [a1], _ => by show a1 * 1444 + v * 38 + 0 < a1 * 1444 + v' * 38 + 0; omega
  | [a1, a2], _ => by show a1 * 1444 + a2 * 38 + v < a1 * 1444 + a2 * 38 + v'; omega
theorem enc_b {v c : Nat} (hv : v ≤ c) : ∀ {P : List Nat}, P.length ≤ 1 → enc (P ++ [v]) < enc ((P ++ [c]) ++ [c + 1])
  | [], _ => by show v * 1444 + 0 * 38 + 0 < c * 1444 + (c + 1) * 38 + 0; omega
  | [a1], _ => by show a1 * 1444 + v * 38 + 0 < a1 * 1444 + c * 38 + (c + 1); omega
theorem enc_c {v p : Nat} (hv : v ≤ 36) : ∀ {P : List Nat}, P.length ≤ 1 → enc ((P ++ [p]) ++ [v]) < enc (P ++ [p + 1])
  | [], _ => by show p * 1444 + v * 38 + 0 < (p + 1) * 1444 + 0 * 38 + 0; omega
  | [a1], _ => by show a1 * 1444 + p * 38 + v < a1 * 1444 + (p + 1) * 38 + 0; omega
theorem enc_le {v : Nat} (hv : v ≤ 36) : ∀ {P : List Nat}, P.length ≤ 2 → (∀ i, i < P.length → g0 P i < 36) → enc (P ++ [v]) < 54872
  | [], _, _ => by show v * 1444 + 0 * 38 + 0 < 54872; omega
  | [a1], _, h => by
    have : a1 < 36 := h 0 (by simp)
    show a1 * 1444 + v * 38 + 0 < 54872; omega
  | [a1, a2], _, h => by
    have : a1 < 36 := h 0 (by simp)
    have : a2 < 36 := h 1 (by simp)
    show a1 * 1444 + a2 * 38 + v < 54872; omega
theorem Inc.lt {l : List Nat} (h : Inc l) {i : Nat} : ∀ {j : Nat}, i < j → j < l.length → g0 l i < g0 l j
  | 0, h1, _ => absurd h1 (Nat.not_lt_zero _)
  | j + 1, h1, h2 => by
    have h3 := h.2 j h2
    by_cases e : i = j
    · rw [e]; exact h3
    · exact Nat.lt_trans (h.lt (j := j) (by omega) (by omega)) h3
theorem mem_g0 {l : List Nat} {s i : Nat} : s ∈ l.drop i ↔ ∃ j, i ≤ j ∧ j < l.length ∧ g0 l j = s := by
  constructor
  · intro H
    obtain ⟨j, hj⟩ := List.getElem?_of_mem H
    rw [List.getElem?_drop] at hj
    obtain ⟨h1, h2⟩ := List.getElem?_eq_some_iff.mp hj
    refine ⟨i + j, by omega, h1, ?_⟩
    have := g0_get h1
    rw [hj] at this
    exact (Option.some.inj this).symm
  · rintro ⟨j, h1, h2, h3⟩
    refine List.mem_of_getElem? (i := j - i) ?_
    rw [List.getElem?_drop, show i + (j - i) = j by omega, g0_get h2, h3]
section
variable {T : TS} {t k : Nat} {P : List Nat} {v c p : Nat}
def PInc (T : TS) (P : List Nat) : Prop := (∀ i, i < P.length → OnR T (g0 P i)) ∧ Inc P
theorem PInc.snoc (h : PInc T P) (hc : OnR T c) (hl : ∀ i, i < P.length → g0 P i < c) : PInc T (P ++ [c]) := by
  refine ⟨fun i hi => ?_, fun i hi => ?_, fun i hi => ?_⟩
  · rw [len_app] at hi
    by_cases e : i = P.length
    · rw [e, g0_eq]; exact hc
    · rw [g0_lt (by omega)]; exact h.1 i (by omega)
  · rw [len_app] at hi
    by_cases e : i = P.length
    · rw [e, g0_eq]; exact hc.1
    · rw [g0_lt (by omega)]; exact h.2.1 i (by omega)
  · rw [len_app] at hi
    rw [g0_lt (by omega)]
    by_cases e : i + 1 = P.length
    · rw [e, g0_eq]; exact hl i (by omega)
    · rw [g0_lt (by omega)]; exact h.2.2 i (by omega)
theorem Ex.scan (h : Ex T t k (P ++ [v])) (hk : P.length < k) (hn : ∀ x, v ≤ x → x < c → ¬ OnR T x) : Ex T t k (P ++ [c]) := by
  rintro l e hI hC ⟨j, hj, h1, h2⟩
  rw [len_app] at hj
  by_cases ej : j = P.length
  · rw [ej] at h1 h2
    rw [g0_eq] at h2
    rcases Nat.lt_or_ge (g0 l P.length) v with h3 | h3
    · exact h l e hI hC ⟨P.length, by rw [len_app]; omega, fun i hi => by rw [h1 i hi, g0_lt hi, g0_lt hi], by rw [g0_eq]; exact h3⟩
    · exact hn _ h3 h2 (hC.1 _ (by omega))
  · refine h l e hI hC ⟨j, by rw [len_app]; omega, fun i hi => by rw [h1 i hi, g0_lt (by omega), g0_lt (by omega)], ?_⟩
    rw [g0_lt (by omega)] at h2 ⊢; exact h2
theorem Ex.down (h : Ex T t k (P ++ [c])) (hk : P.length + 1 < k) : Ex T t k ((P ++ [c]) ++ [c + 1]) := by
  rintro l e hI hC ⟨j, hj, h1, h2⟩
  rw [len_app, len_app] at hj
  by_cases ej : j = P.length + 1
  · have e1 : g0 l P.length = c := by
      rw [h1 P.length (by omega), g0_lt (by rw [len_app]; omega), g0_eq]
    rw [ej, show g0 ((P ++ [c]) ++ [c + 1]) (P.length + 1) = c + 1 by rw [← len_app (v := c)]; exact g0_eq] at h2
    have := hI.2 P.length (by omega)
    omega
  · refine h l e hI hC ⟨j, by rw [len_app]; omega, fun i hi => by rw [h1 i hi, g0_lt (by rw [len_app]; omega)], ?_⟩
    rw [g0_lt (by rw [len_app]; omega)] at h2; exact h2
theorem Ex.next (h : Ex T t k (P ++ [c])) (hk : P.length + 1 = k) (hn : ¬ CutL T t (P ++ [c])) : Ex T t k (P ++ [c + 1]) := by
  rintro l e hI hC ⟨j, hj, h1, h2⟩
  rw [len_app] at hj
  by_cases ej : j = P.length
  · rw [ej] at h1 h2
    rw [g0_eq] at h2
    rcases Nat.lt_or_ge (g0 l P.length) c with h3 | h3
    · exact h l e hI hC ⟨P.length, by rw [len_app]; omega, fun i hi => by rw [h1 i hi, g0_lt hi, g0_lt hi], by rw [g0_eq]; exact h3⟩
    · have e2 : l = P ++ [c] := by
        apply List.ext_getElem?
        intro i
        rcases Nat.lt_or_ge i k with hi | hi
        · rw [g0_get (by omega), g0_get (by rw [len_app]; omega)]
          by_cases ei : i = P.length
          · rw [ei, g0_eq]; congr 1; omega
          · rw [h1 i (by omega), g0_lt (by omega), g0_lt (by omega)]
        · rw [List.getElem?_eq_none (by omega), List.getElem?_eq_none (by rw [len_app]; omega)]
      rw [e2] at hC
      exact hn hC
  · refine h l e hI hC ⟨j, by rw [len_app]; omega, fun i hi => by rw [h1 i hi, g0_lt (by omega), g0_lt (by omega)], ?_⟩
    rw [g0_lt (by omega)] at h2 ⊢; exact h2
theorem Ex.back (h : Ex T t k ((P ++ [p]) ++ [36])) (hk : P.length + 1 < k) : Ex T t k (P ++ [p + 1]) := by
  rintro l e hI hC ⟨j, hj, h1, h2⟩
  rw [len_app] at hj
  by_cases ej : j = P.length
  · rw [ej] at h1 h2
    rw [g0_eq] at h2
    rcases Nat.lt_or_ge (g0 l P.length) p with h3 | h3
    · exact h l e hI hC ⟨P.length, by rw [len_app, len_app]; omega, fun i hi => by rw [h1 i hi, g0_lt hi, g0_lt (by rw [len_app]; omega), g0_lt hi], by rw [g0_lt (by rw [len_app]; omega), g0_eq]; exact h3⟩
    · refine h l e hI hC ⟨P.length + 1, by rw [len_app, len_app]; omega, fun i hi => ?_, ?_⟩
      · rw [g0_lt (by rw [len_app]; omega)]
        by_cases ei : i = P.length
        · rw [ei, g0_eq]; omega
        · rw [h1 i (by omega), g0_lt (by omega), g0_lt (by omega)]
      · rw [show g0 ((P ++ [p]) ++ [36]) (P.length + 1) = 36 by rw [← len_app (v := p)]; exact g0_eq]
        exact hI.1 _ (by omega)
  · refine h l e hI hC ⟨j, by rw [len_app, len_app]; omega, fun i hi => by rw [h1 i hi, g0_lt (by omega), g0_lt (by rw [len_app]; omega), g0_lt (by omega)], ?_⟩
    rw [g0_lt (by omega)] at h2
    rw [g0_lt (by rw [len_app]; omega), g0_lt (by omega)]; exact h2
theorem Ex.stop (h : Ex T t k ([] ++ [36])) (hk : 0 < k) : NoC T t k := fun l e hI hC => h l e hI hC ⟨0, by decide, fun i hi => absurd hi (Nat.not_lt_zero _), hI.1 0 (by omega)⟩
theorem Ex.zero : Ex T t k ([] ++ [0]) := by
  rintro l e hI hC ⟨j, hj, h1, h2⟩
  have : j = 0 := by simp at hj; omega
  subst this
  exact absurd h2 (Nat.not_lt_zero _)
end
/-! the reference's rules with some switched off -/
def NowQ (row : Nat → Int32) (rb : RB) (D : Nat → Bool) : Prop := ∀ box, box < 6 → row (252 + box) = nI (rb box).length ∧ ∀ (i : Nat) r, (rb box)[i]? = some r → ∀ f, f < 7 → row (7 * (6 * box + i) + f) = nI (if f = 6 ∧ D (6 * box + i) = true then 0 else r f)
theorem NowQ.now {row : Nat → Int32} {rb : RB} {D : Nat → Bool} (h : NowQ row rb D) : NowP row (rbo rb D) := fun box hb => by
  refine ⟨by rw [rbo_len]; exact (h box hb).1, fun i r hr f hf => ?_⟩
  rw [rbo_get] at hr
  cases hq : (rb box)[i]? with
  | none => rw [hq] at hr; cases hr
  | some r0 =>
    rw [hq, Option.map_some] at hr
    rw [(h box hb).2 i r0 hq f hf]
    cases hr
    cases hD : D (6 * box + i) with
    | false => simp
    | true =>
      by_cases e : f = 6
      · simp [e, offR]
      · simp [e, offR]
theorem NowQ.of {row : Nat → Int32} {rb : RB} (h : NowP row rb) : NowQ row rb (dl []) := fun box hb => ⟨(h box hb).1, fun i r hr f hf => by
  rw [(h box hb).2 i r hr f hf, if_neg (fun z => by have := (dl_mem _ _).mp z.2; cases this)]⟩
theorem NowQ.nil {row : Nat → Int32} {rb : RB} (h : NowQ row rb (dl [])) : NowP row rb := by
  have := h.now
  rw [dl_nil, rbo_none] at this
  exact this
theorem NowQ.off {row row' : Nat → Int32} {rb : RB} {D D' : Nat → Bool} {s : Nat} (h : NowQ row rb D) (hl : ∀ box, box < 6 → (rb box).length ≤ 6) (h1 : ∀ y, row' y = if y = 7 * s + 6 then 0 else row y) (hs : s < 36) (h2 : ∀ x, x ≠ s → D' x = D x) (h3 : D' s = true) : NowQ row' rb D' := fun box hb => by
  refine ⟨by rw [h1, if_neg (by omega)]; exact (h box hb).1, fun i r hr f hf => ?_⟩
  have hi := (List.getElem?_eq_some_iff.mp hr).1
  have := hl box hb
  rw [h1]
  by_cases e : 7 * (6 * box + i) + f = 7 * s + 6
  · have e1 : f = 6 := by omega
    have e2 : 6 * box + i = s := by omega
    rw [if_pos e, if_pos ⟨e1, by rw [e2]; exact h3⟩]
    rfl
  · rw [if_neg e, (h box hb).2 i r hr f hf]
    by_cases e2 : 6 * box + i = s
    · have e1 : f ≠ 6 := by omega
      simp [e1]
    · rw [h2 _ e2]
theorem NowQ.on {row row' : Nat → Int32} {T : TS} {D D' : Nat → Bool} {s : Nat} (h : NowQ row (tR T) D) (hl : ∀ box, box < 6 → (tR T box).length ≤ 6) (h1 : ∀ y, row' y = if y = 7 * s + 6 then 1 else row y) (hs : OnR T s) (h2 : ∀ x, x ≠ s → D' x = D x) (h3 : D' s = false) : NowQ row' (tR T) D' := fun box hb => by
  have hs36 := hs.1
  refine ⟨by rw [h1, if_neg (by omega)]; exact (h box hb).1, fun i r hr f hf => ?_⟩
  have hi := (List.getElem?_eq_some_iff.mp hr).1
  have := hl box hb
  rw [h1]
  by_cases e : 7 * (6 * box + i) + f = 7 * s + 6
  · have e1 : f = 6 := by omega
    have e2 : 6 * box + i = s := by omega
    obtain ⟨r', e3, e4⟩ := hs.2
    rw [← e2, show (6 * box + i) / 6 = box by omega, show (6 * box + i) % 6 = i by omega, hr] at e3
    cases e3
    rw [if_pos e, if_neg (fun z => by rw [e2, h3] at z; cases z.2), e1, e4]
    rfl
  · rw [if_neg e, (h box hb).2 i r hr f hf]
    by_cases e2 : 6 * box + i = s
    · have e1 : f ≠ 6 := by omega
      simp [e1]
    · rw [h2 _ e2]
def MQ2 (T : TS) (D : Nat → Bool) (fi : Nat → Nat → Nat → Int32) (ai : Nat → Nat → Int32) : Prop := ∃ ai0, MPic T fi ai0 ∧ (∀ a, a ≠ 2 → a ≠ 11 → ai a = ai0 a) ∧ NowQ (ai 2) (tR T) D
theorem MQ2.pic {T : TS} {D : Nat → Bool} {fi : Nat → Nat → Nat → Int32} {ai : Nat → Nat → Int32} (h : MQ2 T D fi ai) : MPic (edT T (rbo (tR T) D) (tH T)) fi ai := by
  obtain ⟨ai0, ⟨p1, p2, p3, p4, ⟨p5, p6⟩, ⟨p7, p8, p9⟩, ⟨p10, p11⟩, p12, p13⟩, h1, h2⟩ := h
  refine ⟨p1, ?_, p3, h2.now, ⟨p5, fun j H hj => ?_⟩, ⟨p7, p8, p9⟩, ⟨p10, fun i p hp => ?_⟩, p12, fun i c hc => ?_⟩
  · rw [h1 1 (by decide) (by decide)]; exact p2
  · rw [h1 3 (by decide) (by decide)]; exact p6 j H hj
  · rw [h1 12 (by decide) (by decide), h1 13 (by decide) (by decide), h1 14 (by decide) (by decide), h1 15 (by decide) (by decide), h1 16 (by decide) (by decide)]; exact p11 i p hp
  · rw [h1 17 (by decide) (by decide)]; exact p13 i c hc
theorem MQ2.nil {T : TS} {fi : Nat → Nat → Nat → Int32} {ai : Nat → Nat → Int32} (h : MQ2 T (dl []) fi ai) : MPic T fi ai := by
  have := h.pic
  rw [dl_nil, rbo_none] at this
  exact this
theorem MQ2.of {T : TS} {fi : Nat → Nat → Nat → Int32} {ai : Nat → Nat → Int32} (h : MPic T fi ai) : MQ2 T (dl []) fi ai := ⟨ai, h, fun _ _ _ => rfl, NowQ.of h.2.2.2.1⟩
theorem MQ2.cut {T : TS} {D : Nat → Bool} {fi : Nat → Nat → Nat → Int32} {ai ai' : Nat → Nat → Int32} (h : MQ2 T D fi ai) (h1 : ∀ a, a ≠ 11 → ai' a = ai a) : MQ2 T D fi ai' := by
  obtain ⟨ai0, h0, h2, h3⟩ := h
  exact ⟨ai0, h0, fun a ha hb => by rw [h1 a hb]; exact h2 a ha hb, by rw [h1 2 (by decide)]; exact h3⟩
theorem WF_rbo {T : TS} (hW : WF T) (D : Nat → Bool) : WF (edT T (rbo (tR T) D) (tH T)) := by
  obtain ⟨w1, w2, w3, w4, w5, w6, w7⟩ := hW
  exact ⟨w1, w2, RBW_rbo w3 D, w4, w5, w6, w7⟩
section
variable {b : UH} {fi : Nat → Nat → Nat → Int32} {fj : Nat → Nat → Nat → Int64} {ai : Nat → Nat → Int32} {aj : Nat → Nat → Int64} {ar : Nat → Nat → Option Nat} {T : TS} {x1 x2 x3 : Int32} {s n t k : Nat} {D : Nat → Bool} {P : List Nat}
theorem m_isStopped (hW : WF T) (hs : mst b) (hM : MQ2 T D fi ai) (ht : t < 24) : wp (fX12_isStopped 0 (nI t) (mk b fi fj ai aj ar)) (fun q => ∃ aj', q.2 = mk b fi fj ai aj' ar ∧ ((q.1 = 1 ∧ ¬ Opn T D t) ∨ (q.1 = 0 ∧ Opn T D t))) := by
  unfold fX12_isStopped
  refine mKw hs (m_spreadAll (m := (mk b fi fj ai aj ar)) (WF_rbo hW D) hs hM.pic) (fun u hu => ?_)
  obtain ⟨aj2, e, _, h7⟩ := hu
  have e' : u = mk b fi fj ai aj2 ar := e
  subst e'
  refine mR hs rfl (mLJ hs rfl rfl (by decide) rfl ht (wp_if (fun h0 => wp_some ⟨aj2, rfl, Or.inl ⟨rfl, ?_⟩⟩) (fun h0 => wp_some ⟨aj2, rfl, Or.inr ⟨rfl, ?_⟩⟩)))
  · rintro ⟨p, h, g, H1, H2⟩
    have := (h7 t ht g).mpr ⟨p, h, H1, H2⟩
    rw [h0, tb_0] at this; cases this
  · obtain ⟨g, _, hg⟩ := tb_nz h0
    obtain ⟨p, h, H1, H2⟩ := (h7 t ht g).mp hg
    exact ⟨p, h, g, H1, H2⟩
theorem m_isOn (hW : WF T) (hs : mst b) (hM : MQ2 T D fi ai) (h36 : s < 36) (hD : D s = false) : wp (fX12_isOn 0 (nI s) (mk b fi fj ai aj ar)) (fun q => (q = 1 ∧ OnR T s) ∨ (q = 0 ∧ ¬ OnR T s)) := by
  obtain ⟨ai0, _, _, hN⟩ := hM
  have hb6 : s / 6 < 6 := by omega
  have hl := (hW.2.2.1 (s / 6) hb6).1
  unfold fX12_isOn
  rw [show (6 : Int32) = nI 6 from rfl, dv (by omega) (by decide) (by decide), rm (by omega) (by decide) (by decide)]
  refine mE hs (m_many hs rfl hb6) ?_
  rw [(hN _ hb6).1]
  refine wp_le rfl rfl (by omega) (by omega) (fun hc => wp_some (Or.inr ⟨rfl, ?_⟩)) (fun hc => ?_)
  · rintro ⟨_, r, hr, _⟩
    have := (List.getElem?_eq_some_iff.mp hr).1
    omega
  · have hr : (tR T (s / 6))[s % 6]? = some ((tR T (s / 6))[s % 6]) := List.getElem?_eq_getElem hc
    generalize (tR T (s / 6))[s % 6] = r at hr
    have hrw := (hW.2.2.1 (s / 6) hb6).2 r (List.mem_of_getElem? hr)
    refine mE hs (m_of (f := 6) hs rfl rfl rfl hb6 (by omega) (by decide)) ?_
    have e6 : ai 2 (7 * (6 * (s / 6) + s % 6) + 6) = nI (r 6) := by
      rw [(hN _ hb6).2 _ r hr 6 (by decide)]
      have hD' : D (6 * (s / 6) + s % 6) = false := by rw [show 6 * (s / 6) + s % 6 = s by omega]; exact hD
      simp [hD']
    rw [e6]
    have h01 : r 6 ≤ 1 := by rcases hrw.2.2.2.2.2.2.2.2.2.1 with h | h <;> omega
    refine wp_eqq (b := 1) rfl rfl (by omega) (by decide) (fun e => wp_some (Or.inl ⟨rfl, h36, r, hr, e⟩)) (fun e => wp_some (Or.inr ⟨rfl, ?_⟩))
    rintro ⟨_, r', hr', e'⟩
    rw [hr] at hr'; cases hr'
    exact e e'
theorem m_turn (hs : mst b) (h36 : s < 36) (v : Int32) : fX12_turn 0 (nI s) v (mk b fi fj ai aj ar) = some (mk b fi fj (up2 ai 2 (7 * s + 6) v) aj ar) := by
  refine of_wp ?_
  unfold fX12_turn
  rw [show (6 : Int32) = nI 6 from rfl, dv (by omega) (by decide) (by decide), rm (by omega) (by decide) (by decide)]
  refine mE hs (m_put (f := 6) hs rfl rfl rfl (by omega) (by omega) (by decide)) (wp_some ?_)
  rw [show 7 * (6 * (s / 6) + s % 6) + 6 = 7 * s + 6 by omega]
theorem MQ2.off (hW : WF T) (h : MQ2 T (dl P) fi ai) (h36 : s < 36) : MQ2 T (dl (P ++ [s])) fi (up2 ai 2 (7 * s + 6) 0) := by
  obtain ⟨ai0, h0, h2, h3⟩ := h
  refine ⟨ai0, h0, fun a ha hb => by rw [up2_a ha]; exact h2 a ha hb, h3.off (fun box hb => (hW.2.2.1 box hb).1) (fun y => up2_is) h36 (fun x hx => ?_) ?_⟩
  · rw [Bool.eq_iff_iff, dl_mem, dl_mem, List.mem_append, List.mem_singleton]
    exact ⟨fun z => z.elim id (fun z => absurd z hx), Or.inl⟩
  · rw [dl_mem, List.mem_append, List.mem_singleton]; exact Or.inr rfl
theorem MQ2.on {D' : Nat → Bool} (hW : WF T) (h : MQ2 T D fi ai) (hs : OnR T s) (hD : ∀ x, x ≠ s → D' x = D x) (hs0 : D' s = false) : MQ2 T D' fi (up2 ai 2 (7 * s + 6) 1) := by
  obtain ⟨ai0, h0, h2, h3⟩ := h
  exact ⟨ai0, h0, fun a ha hb => by rw [up2_a ha]; exact h2 a ha hb, h3.on (fun box hb => (hW.2.2.1 box hb).1) (fun y => up2_is) hs hD hs0⟩
theorem dl_no {P : List Nat} {c : Nat} (h : ∀ i, i < P.length → g0 P i < c) : dl P c = false := by
  cases hq : dl P c with
  | false => rfl
  | true =>
    have h1 := (dl_mem P c).mp hq
    obtain ⟨j, _, hj, e⟩ := (mem_g0 (l := P) (i := 0)).mp h1
    have := h j hj
    omega
/-- the reference's search at level P.length: what it tries next there is v -/
def LI (T : TS) (t k : Nat) (fi : Nat → Nat → Nat → Int32) (ai : Nat → Nat → Int32) (P : List Nat) (v : Nat) : Prop :=
  P.length < k ∧ PInc T P ∧ (∀ i, i < P.length → g0 P i < v) ∧ v ≤ 36 ∧ (∀ i, i < P.length → ai 11 i = nI (g0 P i)) ∧ (∀ j, P.length < j → j < k → ai 11 j = -1) ∧ Ex T t k (P ++ [v]) ∧
  ((ai 11 P.length = -1 ∧ v = (if P.length = 0 then 0 else g0 P (P.length - 1) + 1) ∧ MQ2 T (dl P) fi ai) ∨ (1 ≤ v ∧ (∀ i, i < P.length → g0 P i < v - 1) ∧ ai 11 P.length = nI (v - 1) ∧ OnR T (v - 1) ∧ MQ2 T (dl (P ++ [v - 1])) fi ai))
def LoI (T : TS) (t k : Nat) (b : UH) (fi : Nat → Nat → Nat → Int32) (fj : Nat → Nat → Nat → Int64) (ar : Nat → Nat → Option Nat) (m : Nat) (x3 x4 : Int32) (u : UH) : Prop :=
  ∃ ai' aj', u = mk b fi fj ai' aj' ar ∧ ((x4 = 0 ∧ ∃ P v, x3 = nI P.length ∧ LI T t k fi ai' P v ∧ m = 54872 - enc (P ++ [v])) ∨ (x4 = 0 ∧ x3 = -1 ∧ MQ2 T (dl []) fi ai' ∧ (∀ j, j < k → ai' 11 j = -1) ∧ NoC T t k) ∨ (x4 = 1 ∧ x3 = nI (k - 1) ∧ ∃ l, Fst T t k l ∧ MQ2 T (dl l) fi ai' ∧ ∀ i, i < k → ai' 11 i = nI (g0 l i)))
def LoO (T : TS) (t k : Nat) (b : UH) (fi : Nat → Nat → Nat → Int32) (fj : Nat → Nat → Nat → Int64) (ar : Nat → Nat → Option Nat) (q : Int32 × UH) : Prop :=
  ∃ ai' aj', q.2 = mk b fi fj ai' aj' ar ∧ ((q.1 = 0 ∧ MQ2 T (dl []) fi ai' ∧ (∀ j, j < k → ai' 11 j = -1) ∧ NoC T t k) ∨ (q.1 = 1 ∧ ∃ l, Fst T t k l ∧ MQ2 T (dl l) fi ai' ∧ ∀ i, i < k → ai' 11 i = nI (g0 l i)))
/-- what is tried next: the first slot from v on that is on -/
theorem m_scan {v : Nat} (hW : WF T) (hs : mst b) (hn : n < 3) (hM : MQ2 T D fi ai) (hv : ai 11 n = nI v) (hv36 : v ≤ 36) (hD : ∀ x, v ≤ x → D x = false) : wp (it1 (fX12_findCut_B110 0 (nI n)) FUEL (mk b fi fj ai aj ar)) (fun u => ∃ c, v ≤ c ∧ c ≤ 36 ∧ (∀ x, v ≤ x → x < c → ¬ OnR T x) ∧ (c < 36 → OnR T c) ∧ ∃ ai', u = mk b fi fj ai' aj ar ∧ (∀ a, a ≠ 11 → ai' a = ai a) ∧ ai' 11 n = nI c ∧ ∀ j, j ≠ n → ai' 11 j = ai 11 j) := by
  refine it1_gh (I := fun m u => ∃ c, v ≤ c ∧ c ≤ 36 ∧ m = 36 - c ∧ (∀ x, v ≤ x → x < c → ¬ OnR T x) ∧ ∃ ai', u = mk b fi fj ai' aj ar ∧ (∀ a, a ≠ 11 → ai' a = ai a) ∧ ai' 11 n = nI c ∧ ∀ j, j ≠ n → ai' 11 j = ai 11 j) (fun kk m u hI hk => ?_) FUEL (36 - v) _ ⟨v, Nat.le_refl _, hv36, rfl, fun x h1 h2 => by omega, ai, rfl, fun _ _ => rfl, hv, fun _ _ => rfl⟩ (by unfold FUEL; omega)
  obtain ⟨c, c1, c2, c3, c4, ai', rfl, a1, a2, a3⟩ := hI
  unfold fX12_findCut_B110
  refine mR hs rfl (mL hs rfl rfl (by decide) rfl hn ?_)
  rw [a2]
  refine wp_le (a := 36) rfl rfl (by decide) (by omega) (fun hc => wp_some ⟨c, c1, c2, c4, fun h => by omega, ai', rfl, a1, a2, a3⟩) (fun hc => mR hs rfl (mL hs rfl rfl (by decide) rfl hn ?_))
  rw [a2]
  refine mKw hs (m_isOn hW hs (hM.cut a1) hc (hD c c1)) (fun y hy => ?_)
  rcases hy with ⟨rfl, ho⟩ | ⟨rfl, ho⟩
  · exact wp_f (by decide) (wp_some ⟨c, c1, c2, c4, fun _ => ho, ai', rfl, a1, a2, a3⟩)
  · refine wp_t rfl (mR hs rfl (mL hs rfl rfl (by decide) rfl hn (mS hs rfl rfl (by decide) rfl hn (hk (36 - (c + 1)) _ (by omega) ⟨c + 1, by omega, by omega, rfl, fun x h1 h2 => ?_, _, rfl, fun a ha => by rw [up2_a ha]; exact a1 a ha, ?_, fun j hj => ?_⟩))))
    · by_cases e : x = c
      · rw [e]; exact ho
      · exact c4 x h1 (by omega)
    · rw [up2_s, a2, nI_1]
    · rw [up2_i hj]; exact a3 j hj
end
