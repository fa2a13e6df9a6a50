theorem dl_mem (l : List Nat) (s : Nat) : dl l s = true ↔ s ∈ l := List.contains_iff
theorem dl_nil : dl [] = fun _ => false := rfl
theorem tb_nil : tb 0 = dl [] := funext fun s => tb_0 s
theorem tb_dl1 {a1 : Nat} (h1 : a1 < 36) : tb (jlsl 1 (nI a1)) = dl [a1] := by
  funext s
  rw [Bool.eq_iff_iff, dl_mem, tb_sg (by omega)]
  simp
theorem tb_dl2 {a1 a2 : Nat} (h1 : a1 < 36) (h2 : a2 < 36) : tb (jlsl 1 (nI a1) ||| jlsl 1 (nI a2)) = dl [a1, a2] := by
  funext s
  rw [Bool.eq_iff_iff, dl_mem, tb_orT _ (by omega), tb_sg (by omega)]
  simp
theorem tb_dl3 {a1 a2 a3 : Nat} (h1 : a1 < 36) (h2 : a2 < 36) (h3 : a3 < 36) : tb ((jlsl 1 (nI a1) ||| jlsl 1 (nI a2)) ||| jlsl 1 (nI a3)) = dl [a1, a2, a3] := by
  funext s
  rw [Bool.eq_iff_iff, dl_mem, tb_orT _ (by omega), tb_orT _ (by omega), tb_sg (by omega)]
  simp [or_assoc]
theorem len1 : ∀ {l : List Nat}, l.length = 1 → ∃ a1, l = [a1]
  | [a1], _ => ⟨a1, rfl⟩
theorem len2 : ∀ {l : List Nat}, l.length = 2 → ∃ a1 a2, l = [a1, a2]
  | [a1, a2], _ => ⟨a1, a2, rfl⟩
theorem len3 : ∀ {l : List Nat}, l.length = 3 → ∃ a1 a2 a3, l = [a1, a2, a3]
  | [a1, a2, a3], _ => ⟨a1, a2, a3, rfl⟩
section
variable {T : TS} {t : Nat}
theorem Fst0 (h : ¬ Opn T (dl []) t) : Fst T t 0 [] := ⟨rfl, ⟨fun i hi => absurd hi (Nat.not_lt_zero _), fun i hi => absurd hi (Nat.not_lt_zero _)⟩, ⟨fun i hi => absurd hi (Nat.not_lt_zero _), h⟩, fun l _ _ _ ⟨j, hj, _⟩ => absurd hj (Nat.not_lt_zero _)⟩
theorem NoC0 (h : Opn T (dl []) t) : NoC T t 0 := fun l hl _ hC => by
  have : l = [] := List.length_eq_zero_iff.mp hl
  subst this
  exact hC.2 h
theorem Fst1 {c1 : Nat} (h : ∀ a1, a1 < c1 → Opn T (dl [a1]) t) (hl : c1 < 36) (o1 : OnR T c1) (hn : ¬ Opn T (dl [c1]) t) : Fst T t 1 [c1] := by
  refine ⟨rfl, ⟨fun i hi => ?_, fun i hi => ?_⟩, ⟨fun i hi => ?_, hn⟩, fun l e _ hC ⟨j, hj, _, hlt⟩ => ?_⟩
  · have : i = 0 := by simp at hi; omega
    subst this; exact hl
  · simp at hi
  · have : i = 0 := by simp at hi; omega
    subst this; exact o1
  · obtain ⟨a1, rfl⟩ := len1 e
    have : j = 0 := by simp at hj; omega
    subst this
    exact hC.2 (h a1 hlt)
theorem NoC1 (h : ∀ a1, a1 < 36 → Opn T (dl [a1]) t) : NoC T t 1 := fun l e hI hC => by
  obtain ⟨a1, rfl⟩ := len1 e
  exact hC.2 (h a1 (hI.1 0 (by simp)))
theorem Fst2 {c1 c2 : Nat} (h : ∀ a1 a2, a1 < a2 → a2 < 36 → (a1 < c1 ∨ (a1 = c1 ∧ a2 < c2)) → Opn T (dl [a1, a2]) t) (h12 : c1 < c2) (hl : c2 < 36) (o1 : OnR T c1) (o2 : OnR T c2) (hn : ¬ Opn T (dl [c1, c2]) t) : Fst T t 2 [c1, c2] := by
  refine ⟨rfl, ⟨fun i hi => ?_, fun i hi => ?_⟩, ⟨fun i hi => ?_, hn⟩, fun l e hI hC ⟨j, hj, he, hlt⟩ => ?_⟩
  · rcases (show i = 0 ∨ i = 1 by simp at hi; omega) with rfl | rfl
    · exact Nat.lt_trans h12 hl
    · exact hl
  · have : i = 0 := by simp at hi; omega
    subst this; exact h12
  · rcases (show i = 0 ∨ i = 1 by simp at hi; omega) with rfl | rfl
    · exact o1
    · exact o2
  · obtain ⟨a1, a2, rfl⟩ := len2 e
    have q1 : a1 < a2 := hI.2 0 (by simp)
    have q2 : a2 < 36 := hI.1 1 (by simp)
    rcases (show j = 0 ∨ j = 1 by simp at hj; omega) with rfl | rfl
    · exact hC.2 (h a1 a2 q1 q2 (Or.inl hlt))
    · exact hC.2 (h a1 a2 q1 q2 (Or.inr ⟨he 0 (by decide), hlt⟩))
theorem NoC2 (h : ∀ a1 a2, a1 < a2 → a2 < 36 → Opn T (dl [a1, a2]) t) : NoC T t 2 := fun l e hI hC => by
  obtain ⟨a1, a2, rfl⟩ := len2 e
  exact hC.2 (h a1 a2 (hI.2 0 (by simp)) (hI.1 1 (by simp)))
theorem Fst3 {c1 c2 c3 : Nat} (h : ∀ a1 a2 a3, a1 < a2 → a2 < a3 → a3 < 36 → (a1 < c1 ∨ (a1 = c1 ∧ (a2 < c2 ∨ (a2 = c2 ∧ a3 < c3)))) → Opn T (dl [a1, a2, a3]) t) (h12 : c1 < c2) (h23 : c2 < c3) (hl : c3 < 36) (o1 : OnR T c1) (o2 : OnR T c2) (o3 : OnR T c3) (hn : ¬ Opn T (dl [c1, c2, c3]) t) : Fst T t 3 [c1, c2, c3] := by
  refine ⟨rfl, ⟨fun i hi => ?_, fun i hi => ?_⟩, ⟨fun i hi => ?_, hn⟩, fun l e hI hC ⟨j, hj, he, hlt⟩ => ?_⟩
  · rcases (show i = 0 ∨ i = 1 ∨ i = 2 by simp at hi; omega) with rfl | rfl | rfl
    · exact Nat.lt_trans h12 (Nat.lt_trans h23 hl)
    · exact Nat.lt_trans h23 hl
    · exact hl
  · rcases (show i = 0 ∨ i = 1 by simp at hi; omega) with rfl | rfl
    · exact h12
    · exact h23
  · rcases (show i = 0 ∨ i = 1 ∨ i = 2 by simp at hi; omega) with rfl | rfl | rfl
    · exact o1
    · exact o2
    · exact o3
  · obtain ⟨a1, a2, a3, rfl⟩ := len3 e
    have q1 : a1 < a2 := hI.2 0 (by simp)
    have q2 : a2 < a3 := hI.2 1 (by simp)
    have q3 : a3 < 36 := hI.1 2 (by simp)
    rcases (show j = 0 ∨ j = 1 ∨ j = 2 by simp at hj; omega) with rfl | rfl | rfl
    · exact hC.2 (h a1 a2 a3 q1 q2 q3 (Or.inl hlt))
    · exact hC.2 (h a1 a2 a3 q1 q2 q3 (Or.inr ⟨he 0 (by decide), Or.inl hlt⟩))
    · exact hC.2 (h a1 a2 a3 q1 q2 q3 (Or.inr ⟨he 0 (by decide), Or.inr ⟨he 1 (by decide), hlt⟩⟩))
theorem NoC3 (h : ∀ a1 a2 a3, a1 < a2 → a2 < a3 → a3 < 36 → Opn T (dl [a1, a2, a3]) t) : NoC T t 3 := fun l e hI hC => by
  obtain ⟨a1, a2, a3, rfl⟩ := len3 e
  exact hC.2 (h a1 a2 a3 (hI.2 0 (by simp)) (hI.2 1 (by simp)) (hI.1 2 (by simp)))
/-- a way stays open if slots that it doesn't have are switched off too -/
theorem WY.add {l l' : List Nat} {w : Int64} (h : WY T t (dl l) w) (h1 : ∀ s, s ∈ l → s ∈ l') (h2 : ∀ s, s ∈ l' → s ∈ l ∨ tb w s = false) : WY T t (dl l') w := h.up (fun s hs => (dl_mem l' s).mpr (h1 s ((dl_mem l s).mp hs))) (fun s hs => by
  cases hq : dl l' s with
  | false => rfl
  | true =>
    rcases h2 s ((dl_mem l' s).mp hq) with h3 | h3
    · have := (h.1 s hs).2.2
      rw [(dl_mem l s).mpr h3] at this; cases this
    · rw [h3] at hs; cases hs)
end
theorem pl36 (a1 a2 : Nat) : (nI a1 * (36 : Int32)) + nI a2 = nI (36 * a1 + a2) := by
  show nI a1 * nI 36 + nI a2 = _
  rw [pk_mul, nI_add, Nat.mul_comm]
theorem x_isOn (w : Int64) {n : Nat} (hn : n < 64) (u : UH) : fX0_isOn w (nI n) u = some (if tb w n then 1 else 0) := by
  refine of_wp ?_
  unfold fX0_isOn
  exact wp_ub0 rfl hn (fun h => wp_some (by rw [h]; rfl)) (fun h => wp_some (by rw [h]; rfl))
def SF (T : TS) (t : Nat) (b : UH) (fi : Nat → Nat → Nat → Int32) (fj : Nat → Nat → Nat → Int64) (ai : Nat → Nat → Int32) (ar : Nat → Nat → Option Nat) : Prop := XPic T b fi fj ai ar ∧ CuP T t fi fj
/-- ways while one slot is off, and while two are -/
def W1 (T : TS) (t n : Nat) (aj : Nat → Nat → Int64) : Prop := ∀ a1, a1 < n → aj 55 a1 ≠ 0 ∧ WY T t (dl [a1]) (aj 55 a1)
def W2 (T : TS) (t n m : Nat) (aj : Nat → Nat → Int64) : Prop := ∀ a1 a2, a1 < a2 → a2 < 36 → (a1 < n ∨ (a1 = n ∧ a2 < m)) → WY T t (dl [a1, a2]) (aj 56 (36 * a1 + a2))
section
variable {b : UH} {fi : Nat → Nat → Nat → Int32} {fj : Nat → Nat → Nat → Int64} {ai : Nat → Nat → Int32} {aj : Nat → Nat → Int64} {ar : Nat → Nat → Option Nat} {T : TS} {x1 x2 x3 : Int32} {n m t : Nat} {w : Int64}
theorem x_ow (hs : xst b) (hW : WF T) (hS : SF T t b fi fj ai ar) (ht : t < 24) (off : Int64) {l : List Nat} (hl : tb off = dl l) : wp (fX0_openWay 53 off (mk b fi fj ai aj ar)) (fun q => ((q.1 = 0 ∧ ¬ Opn T (dl l) t) ∨ (q.1 ≠ 0 ∧ WY T t (dl l) q.1)) ∧ ∃ fi' ai' aj', q.2 = mk b fi' fj ai' aj' ar ∧ SF T t b fi' fj ai' ar ∧ aj' 55 = aj 55 ∧ aj' 56 = aj 56) := by
  rw [← hl]
  refine wp_mono (x_openWay hs hW hS.1 hS.2 ht off) (fun q hq => ⟨hq.1, ?_⟩)
  obtain ⟨fi', ai', aj', e, F⟩ := hq.2
  exact ⟨fi', ai', aj', e, ⟨F.pic hS.1, (F.1 0 8 53 (by decide)).trans hS.2.1, hS.2.2.1, (F.1 0 10 53 (by decide)).trans hS.2.2.2⟩, F.2.2 55 (by decide) (by decide), F.2.2 56 (by decide) (by decide)⟩
theorem SF.mem {ai' : Nat → Nat → Int32} (hS : SF T t b fi fj ai ar) (h : ∀ a, a ≠ 54 → ai' a = ai a) : SF T t b fi fj ai' ar := ⟨hS.1.sc xsI.refl xsJ.refl (fun a ha => h a (by omega)), hS.2⟩
theorem x_cutByOne (hs : xst b) (hW : WF T) (hS : SF T t b fi fj ai ar) (ht : t < 24) (hw : w ≠ 0) (hy : WY T t (dl []) w) : wp (fX0_cutByOne 53 w (mk b fi fj ai aj ar)) (fun q => ∃ fi' ai' aj', q.2 = mk b fi' fj ai' aj' ar ∧ SF T t b fi' fj ai' ar ∧ ((q.1 = 1 ∧ ∃ c1, Fst T t 1 [c1] ∧ ai' 54 0 = nI c1) ∨ (q.1 = 0 ∧ W1 T t 36 aj'))) := by
  unfold fX0_cutByOne
  refine wp_oew (Q := fun q => match q with
    | .inl u => ∃ fi' ai' aj', u = mk b fi' fj ai' aj' ar ∧ SF T t b fi' fj ai' ar ∧ W1 T t 36 aj'
    | .inr q => ∃ fi' ai' aj', q.2 = mk b fi' fj ai' aj' ar ∧ SF T t b fi' fj ai' ar ∧ (q.1 = 1 ∧ ∃ c1, Fst T t 1 [c1] ∧ ai' 54 0 = nI c1)) ?_ (fun u hu => ?_) (fun q hq => ?_)
  · refine it2_up1F (show (0 : Int32) = nI 0 from rfl) 36 (by decide) (fun n u => ∃ fi' ai' aj', u = mk b fi' fj ai' aj' ar ∧ SF T t b fi' fj ai' ar ∧ W1 T t n aj') (fun k n u hn hI hk => ?_) (Nat.zero_le _) ⟨fi, ai, aj, rfl, hS, fun a1 h => absurd h (Nat.not_lt_zero _)⟩
    obtain ⟨fi', ai', aj', rfl, hS', hI⟩ := hI
    unfold fX0_cutByOne_B2
    refine wp_le (a := 36) rfl rfl (by decide) (by omega) (fun hc => wp_some ?_) (fun hc => ?_)
    · have : n = 36 := by omega
      subst this; exact ⟨fi', ai', aj', rfl, hS', hI⟩
    have go : ∀ (fi2 : Nat → Nat → Nat → Int32) (ai2 : Nat → Nat → Int32) (aj2 : Nat → Nat → Int64) (y : Int64), SF T t b fi2 fj ai2 ar → aj2 55 = aj' 55 → ((y = 0 ∧ OnR T n ∧ ¬ Opn T (dl [n]) t) ∨ (y ≠ 0 ∧ WY T t (dl [n]) y)) → wp (fX0_cutByOne_32 k 53 w (nI n) y (nI n) 55 (mk b fi2 fj ai2 aj2 ar)) (fun q => match q with
        | .inl u => ∃ fi' ai' aj', u = mk b fi' fj ai' aj' ar ∧ SF T t b fi' fj ai' ar ∧ W1 T t 36 aj'
        | .inr q => ∃ fi' ai' aj', q.2 = mk b fi' fj ai' aj' ar ∧ SF T t b fi' fj ai' ar ∧ (q.1 = 1 ∧ ∃ c1, Fst T t 1 [c1] ∧ ai' 54 0 = nI c1)) := by
      intro fi2 ai2 aj2 y hS2 e55 hy2
      unfold fX0_cutByOne_32
      refine oSJ (hs.1 55 21 rfl) (hs.2.1 55 36 rfl) rfl hc (by decide) (oR (hs.1 53 1 rfl) (hs.2.2 0 2 53 55 rfl) (oLJ (hs.1 55 21 rfl) (hs.2.1 55 36 rfl) rfl hc (by decide) ?_))
      rw [up2_s]
      rcases hy2 with ⟨e0, o1, hno⟩ | ⟨e0, hwy⟩
      · refine wp_t e0 (oR (hs.1 53 1 rfl) (hs.2.2 0 1 53 54 rfl) (oS (hs.1 54 20 rfl) (hs.2.1 54 3 rfl) (i := 0) rfl (by decide) (by decide) (wp_some ⟨fi2, _, _, rfl, hS2.mem (fun a ha => up2_a ha), rfl, n, Fst1 (fun a1 h1 => (hI a1 h1).2.opn) hc o1 hno, up2_s⟩)))
      · refine wp_f e0 (hk hc _ _ (nI_1 n) ⟨fi2, ai2, _, rfl, hS2, fun a1 h1 => ?_⟩)
        rw [up2_is]
        by_cases e : a1 = n
        · rw [if_pos e, e]; exact ⟨e0, hwy⟩
        · rw [if_neg e, e55]; exact hI a1 (by omega)
    refine oR (hs.1 53 1 rfl) (hs.2.2 0 2 53 55 rfl) (wp_obe (x_isOn w (by omega) _) ?_)
    cases htb : tb w n with
    | false => exact wp_t rfl (go fi' ai' aj' w hS' rfl (Or.inr ⟨hw, hy.add (fun s hs => (by cases hs)) (fun s hs => Or.inr (by rw [List.mem_singleton.mp hs]; exact htb))⟩))
    | true =>
      refine wp_f (by decide) (oK2 (hs.1 53 1 rfl) (x_ow hs hW hS' ht _ (tb_dl1 hc)) (fun y u hq => ?_))
      obtain ⟨hq, fi2, ai2, aj2, e, hS2, e55, _⟩ := hq
      dsimp only at hq e
      subst e
      refine go fi2 ai2 aj2 y hS2 e55 ?_
      rcases hq with ⟨e0, hno⟩ | h
      · exact Or.inl ⟨e0, (hy.1 n htb).2.1, hno⟩
      · exact Or.inr h
  · obtain ⟨fi', ai', aj', rfl, hS', h⟩ := hu
    exact wp_some ⟨fi', ai', aj', rfl, hS', Or.inr ⟨rfl, h⟩⟩
  · obtain ⟨fi', ai', aj', e, hS', h⟩ := hq
    exact wp_some ⟨fi', ai', aj', e, hS', Or.inl h⟩
theorem x_knownWay (hs : xst b) (h1 : W1 T t 36 aj) (hn : n < m) (hm : m < 36) : wp (fX0_knownWay 53 (nI n) (nI m) (mk b fi fj ai aj ar)) (fun y => (y ≠ 0 ∧ WY T t (dl [n, m]) y) ∨ (y = 0 ∧ OnR T n ∧ OnR T m)) := by
  obtain ⟨n1, n2⟩ := h1 n (by omega)
  obtain ⟨m1, m2⟩ := h1 m hm
  unfold fX0_knownWay
  refine oR (hs.1 53 1 rfl) (hs.2.2 0 2 53 55 rfl) (oLJ (hs.1 55 21 rfl) (hs.2.1 55 36 rfl) rfl (by omega) (by decide) (wp_obe (x_isOn _ (by omega) _) ?_))
  cases htn : tb (aj 55 n) m with
  | false =>
    refine wp_t rfl (oR (hs.1 53 1 rfl) (hs.2.2 0 2 53 55 rfl) (oLJ (hs.1 55 21 rfl) (hs.2.1 55 36 rfl) rfl (by omega) (by decide) (wp_some (Or.inl ⟨n1, n2.add (fun s hs => ?_) (fun s hs => ?_)⟩))))
    · rw [List.mem_singleton.mp hs]; simp
    · rcases List.mem_cons.mp hs with h | h
      · exact Or.inl (by rw [h]; simp)
      · exact Or.inr (by rw [List.mem_singleton.mp h]; exact htn)
  | true =>
    refine wp_f (by decide) (oR (hs.1 53 1 rfl) (hs.2.2 0 2 53 55 rfl) (oLJ (hs.1 55 21 rfl) (hs.2.1 55 36 rfl) rfl hm (by decide) (wp_obe (x_isOn _ (by omega) _) ?_)))
    cases htm : tb (aj 55 m) n with
    | false =>
      refine wp_t rfl (oR (hs.1 53 1 rfl) (hs.2.2 0 2 53 55 rfl) (oLJ (hs.1 55 21 rfl) (hs.2.1 55 36 rfl) rfl hm (by decide) (wp_some (Or.inl ⟨m1, m2.add (fun s hs => ?_) (fun s hs => ?_)⟩))))
      · rw [List.mem_singleton.mp hs]; simp
      · rcases List.mem_cons.mp hs with h | h
        · exact Or.inr (by rw [h]; exact htm)
        · exact Or.inl h
    | true => exact wp_f (by decide) (wp_some (Or.inr ⟨rfl, (m2.1 n htm).2.1, (n2.1 m htn).2.1⟩))
theorem x_cutByTwo (hs : xst b) (hW : WF T) (hS : SF T t b fi fj ai ar) (ht : t < 24) (h1 : W1 T t 36 aj) : wp (fX0_cutByTwo 53 (mk b fi fj ai aj ar)) (fun q => ∃ fi' ai' aj', q.2 = mk b fi' fj ai' aj' ar ∧ SF T t b fi' fj ai' ar ∧ ((q.1 = 1 ∧ ∃ c1 c2, Fst T t 2 [c1, c2] ∧ ai' 54 0 = nI c1 ∧ ai' 54 1 = nI c2) ∨ (q.1 = 0 ∧ W2 T t 36 0 aj'))) := by
  unfold fX0_cutByTwo
  refine wp_oew (Q := fun q => match q with
    | .inl u => ∃ fi' ai' aj', u = mk b fi' fj ai' aj' ar ∧ SF T t b fi' fj ai' ar ∧ W2 T t 36 0 aj'
    | .inr q => ∃ fi' ai' aj', q.2 = mk b fi' fj ai' aj' ar ∧ SF T t b fi' fj ai' ar ∧ (q.1 = 1 ∧ ∃ c1 c2, Fst T t 2 [c1, c2] ∧ ai' 54 0 = nI c1 ∧ ai' 54 1 = nI c2)) ?_ (fun u hu => ?_) (fun q hq => ?_)
  · refine it2_up1F (show (0 : Int32) = nI 0 from rfl) 36 (by decide) (fun n u => ∃ fi' ai' aj', u = mk b fi' fj ai' aj' ar ∧ SF T t b fi' fj ai' ar ∧ W1 T t 36 aj' ∧ W2 T t n 0 aj') (fun k n u hn hI hk => ?_) (Nat.zero_le _) ⟨fi, ai, aj, rfl, hS, h1, fun a1 a2 _ _ h => by omega⟩
    obtain ⟨fi', ai', aj', rfl, hS', hI1, hI2⟩ := hI
    unfold fX0_cutByTwo_B2
    refine wp_le (a := 36) rfl rfl (by decide) (by omega) (fun hc => wp_some ?_) (fun hc => wp_lt ?_)
    · have : n = 36 := by omega
      subst this; exact ⟨fi', ai', aj', rfl, hS', hI2⟩
    refine wp_oew (Q := fun q => match q with
      | .inl u => ∃ fi' ai' aj', u = mk b fi' fj ai' aj' ar ∧ SF T t b fi' fj ai' ar ∧ W1 T t 36 aj' ∧ W2 T t (n + 1) 0 aj'
      | .inr q => ∃ fi' ai' aj', q.2 = mk b fi' fj ai' aj' ar ∧ SF T t b fi' fj ai' ar ∧ (q.1 = 1 ∧ ∃ c1 c2, Fst T t 2 [c1, c2] ∧ ai' 54 0 = nI c1 ∧ ai' 54 1 = nI c2)) ?_ (fun u hu => hk hc _ _ (nI_1 n) hu) (fun q hq => wp_some hq)
    refine it2_up1F (nI_1 n) 36 (by decide) (fun m u => n < m ∧ ∃ fi' ai' aj', u = mk b fi' fj ai' aj' ar ∧ SF T t b fi' fj ai' ar ∧ W1 T t 36 aj' ∧ W2 T t n m aj') (fun k2 m u hm hJ hk2 => ?_) hc ⟨by omega, fi', ai', aj', rfl, hS', hI1, fun a1 a2 h12 h2 h => hI2 a1 a2 h12 h2 (by omega)⟩
    obtain ⟨hnm, fi2, ai2, aj2, rfl, hS2, hJ1, hJ2⟩ := hJ
    unfold fX0_cutByTwo_B12
    refine wp_le (a := 36) rfl rfl (by decide) (by omega) (fun hc2 => wp_some ⟨fi2, ai2, aj2, rfl, hS2, hJ1, fun a1 a2 h12 h2 h => hJ2 a1 a2 h12 h2 (by omega)⟩) (fun hc2 => ?_)
    have go : ∀ (fi3 : Nat → Nat → Nat → Int32) (ai3 : Nat → Nat → Int32) (aj3 : Nat → Nat → Int64) (y : Int64), SF T t b fi3 fj ai3 ar → aj3 55 = aj2 55 → aj3 56 = aj2 56 → ((y = 0 ∧ OnR T n ∧ OnR T m ∧ ¬ Opn T (dl [n, m]) t) ∨ (y ≠ 0 ∧ WY T t (dl [n, m]) y)) → wp (fX0_cutByTwo_43 k2 53 (nI n) (nI m) y (mk b fi3 fj ai3 aj3 ar)) (fun q => match q with
        | .inl u => ∃ fi' ai' aj', u = mk b fi' fj ai' aj' ar ∧ SF T t b fi' fj ai' ar ∧ W1 T t 36 aj' ∧ W2 T t (n + 1) 0 aj'
        | .inr q => ∃ fi' ai' aj', q.2 = mk b fi' fj ai' aj' ar ∧ SF T t b fi' fj ai' ar ∧ (q.1 = 1 ∧ ∃ c1 c2, Fst T t 2 [c1, c2] ∧ ai' 54 0 = nI c1 ∧ ai' 54 1 = nI c2)) := by
      intro fi3 ai3 aj3 y hS3 e55 e56 hy2
      unfold fX0_cutByTwo_43
      rcases hy2 with ⟨e0, o1, o2, hno⟩ | ⟨e0, hwy⟩
      · refine wp_t e0 (oR (hs.1 53 1 rfl) (hs.2.2 0 1 53 54 rfl) (oS (hs.1 54 20 rfl) (hs.2.1 54 3 rfl) (i := 0) rfl (by decide) (by decide) (oR (hs.1 53 1 rfl) (hs.2.2 0 1 53 54 rfl) (oS (hs.1 54 20 rfl) (hs.2.1 54 3 rfl) (i := 1) rfl (by decide) (by decide) (wp_some ⟨fi3, _, aj3, rfl, hS3.mem (fun a ha => by rw [up2_a ha, up2_a ha]), rfl, n, m, Fst2 (fun a1 a2 h12 h2 h => (hJ2 a1 a2 h12 h2 h).opn) hnm hc2 o1 o2 hno, by rw [up2_i (by decide), up2_s], up2_s⟩)))))
      · refine wp_f e0 (oR (hs.1 53 1 rfl) (hs.2.2 0 3 53 56 rfl) ?_)
        rw [pl36]
        refine oSJ (hs.1 56 21 rfl) (hs.2.1 56 1296 rfl) rfl (by omega) (by decide) (hk2 hc2 _ _ (nI_1 m) ⟨by omega, fi3, ai3, _, rfl, hS3, fun a1 h => ?_, fun a1 a2 h12 h2 h => ?_⟩)
        · rw [up2_a (by decide), e55]; exact hJ1 a1 h
        · rw [up2_is]
          by_cases e : 36 * a1 + a2 = 36 * n + m
          · rw [if_pos e]
            have ea : a1 = n := by omega
            have eb : a2 = m := by omega
            rw [ea, eb]; exact hwy
          · rw [if_neg e, e56]; exact hJ2 a1 a2 h12 h2 (by omega)
    refine oKw (hs.1 53 1 rfl) (x_knownWay hs hJ1 hnm hc2) (fun y hy => ?_)
    rcases hy with ⟨y0, hy⟩ | ⟨y0, o1, o2⟩
    · exact wp_f y0 (go fi2 ai2 aj2 y hS2 rfl rfl (Or.inr ⟨y0, hy⟩))
    · refine wp_t y0 (oK2 (hs.1 53 1 rfl) (x_ow hs hW hS2 ht _ (tb_dl2 hc hc2)) (fun y u hq => ?_))
      obtain ⟨hq, fi3, ai3, aj3, e, hS3, e55, e56⟩ := hq
      dsimp only at hq e
      subst e
      refine go fi3 ai3 aj3 y hS3 e55 e56 ?_
      rcases hq with ⟨e0, hno⟩ | h
      · exact Or.inl ⟨e0, o1, o2, hno⟩
      · exact Or.inr h
  · obtain ⟨fi', ai', aj', rfl, hS', h⟩ := hu
    exact wp_some ⟨fi', ai', aj', rfl, hS', Or.inr ⟨rfl, h⟩⟩
  · obtain ⟨fi', ai', aj', e, hS', h⟩ := hq
    exact wp_some ⟨fi', ai', aj', e, hS', Or.inl h⟩
theorem x_isWorthTrying {c1 c2 c3 : Nat} (hs : xst b) (h2 : W2 T t 36 0 aj) (h12 : c1 < c2) (h23 : c2 < c3) (h36 : c3 < 36) : wp (fX0_isWorthTrying 53 (nI c1) (nI c2) (nI c3) (mk b fi fj ai aj ar)) (fun y => (y = 0 ∧ Opn T (dl [c1, c2, c3]) t) ∨ (y ≠ 0 ∧ OnR T c1 ∧ OnR T c2 ∧ OnR T c3)) := by
  have v12 := h2 c1 c2 h12 (by omega) (by omega)
  have v13 := h2 c1 c3 (by omega) h36 (by omega)
  have v23 := h2 c2 c3 h23 h36 (by omega)
  unfold fX0_isWorthTrying
  refine oR (hs.1 53 1 rfl) (hs.2.2 0 3 53 56 rfl) ?_
  rw [pl36, pl36, pl36]
  refine oLJ (hs.1 56 21 rfl) (hs.2.1 56 1296 rfl) rfl (by omega) (by decide) (wp_obe (x_isOn _ (by omega) _) ?_)
  cases t3 : tb (aj 56 (36 * c1 + c2)) c3 with
  | false =>
    refine wp_t rfl (wp_some (Or.inl ⟨rfl, (v12.add (l' := [c1, c2, c3]) (fun s hs => ?_) (fun s hs => ?_)).opn⟩))
    · simp at hs ⊢; omega
    · simp only [List.mem_cons, List.not_mem_nil, or_false] at hs ⊢
      rcases hs with h | h | h
      · exact Or.inl (Or.inl h)
      · exact Or.inl (Or.inr h)
      · exact Or.inr (by rw [h]; exact t3)
  | true =>
    refine wp_f (by decide) (oR (hs.1 53 1 rfl) (hs.2.2 0 3 53 56 rfl) (oLJ (hs.1 56 21 rfl) (hs.2.1 56 1296 rfl) rfl (by omega) (by decide) (wp_obe (x_isOn _ (by omega) _) ?_)))
    cases t2 : tb (aj 56 (36 * c1 + c3)) c2 with
    | false =>
      refine wp_t rfl (wp_some (Or.inl ⟨rfl, (v13.add (l' := [c1, c2, c3]) (fun s hs => ?_) (fun s hs => ?_)).opn⟩))
      · simp at hs ⊢; omega
      · simp only [List.mem_cons, List.not_mem_nil, or_false] at hs ⊢
        rcases hs with h | h | h
        · exact Or.inl (Or.inl h)
        · exact Or.inr (by rw [h]; exact t2)
        · exact Or.inl (Or.inr h)
    | true =>
      refine wp_f (by decide) (oR (hs.1 53 1 rfl) (hs.2.2 0 3 53 56 rfl) (oLJ (hs.1 56 21 rfl) (hs.2.1 56 1296 rfl) rfl (by omega) (by decide) (wp_obe (x_isOn _ (by omega) _) ?_)))
      cases t1 : tb (aj 56 (36 * c2 + c3)) c1 with
      | false =>
        refine wp_t rfl (wp_some (Or.inl ⟨rfl, (v23.add (l' := [c1, c2, c3]) (fun s hs => ?_) (fun s hs => ?_)).opn⟩))
        · simp at hs ⊢; omega
        · simp only [List.mem_cons, List.not_mem_nil, or_false] at hs ⊢
          rcases hs with h | h | h
          · exact Or.inr (by rw [h]; exact t1)
          · exact Or.inl (Or.inl h)
          · exact Or.inl (Or.inr h)
      | true => exact wp_f (by decide) (wp_some (Or.inr ⟨by decide, (v23.1 c1 t1).2.1, (v13.1 c2 t2).2.1, (v12.1 c3 t3).2.1⟩))
def O3 (T : TS) (t n m c : Nat) : Prop := ∀ a1 a2 a3, a1 < a2 → a2 < a3 → a3 < 36 → (a1 < n ∨ (a1 = n ∧ (a2 < m ∨ (a2 = m ∧ a3 < c)))) → Opn T (dl [a1, a2, a3]) t
theorem x_cutByThree (hs : xst b) (hW : WF T) (hS : SF T t b fi fj ai ar) (ht : t < 24) (h2 : W2 T t 36 0 aj) : wp (fX0_cutByThree 53 (mk b fi fj ai aj ar)) (fun q => ∃ fi' ai' aj', q.2 = mk b fi' fj ai' aj' ar ∧ SF T t b fi' fj ai' ar ∧ ((q.1 = 1 ∧ ∃ c1 c2 c3, Fst T t 3 [c1, c2, c3] ∧ ai' 54 0 = nI c1 ∧ ai' 54 1 = nI c2 ∧ ai' 54 2 = nI c3) ∨ (q.1 = 0 ∧ NoC T t 3))) := by
  unfold fX0_cutByThree
  refine wp_oew (Q := fun q => match q with
    | .inl u => ∃ fi' ai' aj', u = mk b fi' fj ai' aj' ar ∧ SF T t b fi' fj ai' ar ∧ NoC T t 3
    | .inr q => ∃ fi' ai' aj', q.2 = mk b fi' fj ai' aj' ar ∧ SF T t b fi' fj ai' ar ∧ (q.1 = 1 ∧ ∃ c1 c2 c3, Fst T t 3 [c1, c2, c3] ∧ ai' 54 0 = nI c1 ∧ ai' 54 1 = nI c2 ∧ ai' 54 2 = nI c3)) ?_ (fun u hu => ?_) (fun q hq => ?_)
  · refine it2_up1F (show (0 : Int32) = nI 0 from rfl) 36 (by decide) (fun n u => ∃ fi' ai' aj', u = mk b fi' fj ai' aj' ar ∧ SF T t b fi' fj ai' ar ∧ W2 T t 36 0 aj' ∧ O3 T t n 0 0) (fun k n u hn hI hk => ?_) (Nat.zero_le _) ⟨fi, ai, aj, rfl, hS, h2, fun a1 a2 a3 _ _ _ h => by omega⟩
    obtain ⟨fi', ai', aj', rfl, hS', hI2, hI3⟩ := hI
    unfold fX0_cutByThree_B2
    refine wp_le (a := 36) rfl rfl (by decide) (by omega) (fun hc => wp_some ⟨fi', ai', aj', rfl, hS', NoC3 (fun a1 a2 a3 h12 h23 h3 => hI3 a1 a2 a3 h12 h23 h3 (by omega))⟩) (fun hc => wp_lt ?_)
    refine wp_oew (Q := fun q => match q with
      | .inl u => ∃ fi' ai' aj', u = mk b fi' fj ai' aj' ar ∧ SF T t b fi' fj ai' ar ∧ W2 T t 36 0 aj' ∧ O3 T t (n + 1) 0 0
      | .inr q => ∃ fi' ai' aj', q.2 = mk b fi' fj ai' aj' ar ∧ SF T t b fi' fj ai' ar ∧ (q.1 = 1 ∧ ∃ c1 c2 c3, Fst T t 3 [c1, c2, c3] ∧ ai' 54 0 = nI c1 ∧ ai' 54 1 = nI c2 ∧ ai' 54 2 = nI c3)) ?_ (fun u hu => hk hc _ _ (nI_1 n) hu) (fun q hq => wp_some hq)
    refine it2_up1F (nI_1 n) 36 (by decide) (fun m u => n < m ∧ ∃ fi' ai' aj', u = mk b fi' fj ai' aj' ar ∧ SF T t b fi' fj ai' ar ∧ W2 T t 36 0 aj' ∧ O3 T t n m 0) (fun k2 m u hm hJ hk2 => ?_) hc ⟨by omega, fi', ai', aj', rfl, hS', hI2, fun a1 a2 a3 h12 h23 h3 h => hI3 a1 a2 a3 h12 h23 h3 (by omega)⟩
    obtain ⟨hnm, fi2, ai2, aj2, rfl, hS2, hJ2, hJ3⟩ := hJ
    unfold fX0_cutByThree_B12
    refine wp_le (a := 36) rfl rfl (by decide) (by omega) (fun hc2 => wp_some ⟨fi2, ai2, aj2, rfl, hS2, hJ2, fun a1 a2 a3 h12 h23 h3 h => hJ3 a1 a2 a3 h12 h23 h3 (by omega)⟩) (fun hc2 => oR (hs.1 53 1 rfl) (hs.2.2 0 3 53 56 rfl) ?_)
    rw [pl36]
    refine oLJ (hs.1 56 21 rfl) (hs.2.1 56 1296 rfl) rfl (by omega) (by decide) (wp_lt ?_)
    have v12 := hJ2 n m hnm hc2 (by omega)
    generalize aj2 56 (36 * n + m) = w12 at v12 ⊢
    refine wp_oew (Q := fun q => match q with
      | .inl u => ∃ fi' ai' aj', u = mk b fi' fj ai' aj' ar ∧ SF T t b fi' fj ai' ar ∧ W2 T t 36 0 aj' ∧ O3 T t n (m + 1) 0
      | .inr q => ∃ fi' ai' aj', q.2 = mk b fi' fj ai' aj' ar ∧ SF T t b fi' fj ai' ar ∧ (q.1 = 1 ∧ ∃ c1 c2 c3, Fst T t 3 [c1, c2, c3] ∧ ai' 54 0 = nI c1 ∧ ai' 54 1 = nI c2 ∧ ai' 54 2 = nI c3)) ?_ (fun u hu => hk2 hc2 _ _ (nI_1 m) ⟨by omega, hu⟩) (fun q hq => wp_some hq)
    refine it2_up1F (nI_1 m) 36 (by decide) (fun c u => m < c ∧ ∃ fi' ai' aj', u = mk b fi' fj ai' aj' ar ∧ SF T t b fi' fj ai' ar ∧ W2 T t 36 0 aj' ∧ O3 T t n m c) (fun k3 c u hcl hK hk3 => ?_) hc2 ⟨by omega, fi2, ai2, aj2, rfl, hS2, hJ2, fun a1 a2 a3 h12 h23 h3 h => hJ3 a1 a2 a3 h12 h23 h3 (by omega)⟩
    obtain ⟨hmc, fi3, ai3, aj3, rfl, hS3, hK2, hK3⟩ := hK
    have nx : Opn T (dl [n, m, c]) t → O3 T t n m (c + 1) := by
      intro ho a1 a2 a3 h12 h23 h3 h
      by_cases e : a1 = n ∧ a2 = m ∧ a3 = c
      · rw [e.1, e.2.1, e.2.2]; exact ho
      · exact hK3 a1 a2 a3 h12 h23 h3 (by omega)
    unfold fX0_cutByThree_B35
    refine wp_le (a := 36) rfl rfl (by decide) (by omega) (fun hc3 => wp_some ⟨fi3, ai3, aj3, rfl, hS3, hK2, fun a1 a2 a3 h12 h23 h3 h => hK3 a1 a2 a3 h12 h23 h3 (by omega)⟩) (fun hc3 => ?_)
    refine wp_if (fun hz => wp_some ⟨fi3, ai3, aj3, rfl, hS3, hK2, fun a1 a2 a3 h12 h23 h3 h => ?_⟩) (fun hz => ?_)
    · by_cases e : a1 = n ∧ a2 = m ∧ c ≤ a3
      · obtain ⟨ea, eb, ec⟩ := e
        subst ea; subst eb
        have h0 : tb w12 a3 = false := by
          have := tb_ushr (n := c) (by omega) w12 (a3 - c)
          rw [hz, tb_0, show c + (a3 - c) = a3 by omega] at this
          exact this.symm
        refine (v12.add (l' := [a1, a2, a3]) (fun s hs => ?_) (fun s hs => ?_)).opn
        · simp at hs ⊢; omega
        · simp only [List.mem_cons, List.not_mem_nil, or_false] at hs ⊢
          rcases hs with h | h | h
          · exact Or.inl (Or.inl h)
          · exact Or.inl (Or.inr h)
          · exact Or.inr (by rw [h]; exact h0)
      · exact hK3 a1 a2 a3 h12 h23 h3 (by omega)
    · refine oKw (hs.1 53 1 rfl) (x_isWorthTrying hs hK2 hnm hmc hc3) (fun y hy => ?_)
      rcases hy with ⟨y0, ho⟩ | ⟨y0, o1, o2, o3⟩
      · exact wp_t y0 (hk3 hc3 _ _ (nI_1 c) ⟨by omega, fi3, ai3, aj3, rfl, hS3, hK2, nx ho⟩)
      · refine wp_f y0 (oK2 (hs.1 53 1 rfl) (x_ow hs hW hS3 ht _ (tb_dl3 hc hc2 hc3)) (fun y u hq => ?_))
        obtain ⟨hq, fi4, ai4, aj4, e, hS4, e55, e56⟩ := hq
        dsimp only at hq e
        subst e
        rcases hq with ⟨e0, hno⟩ | ⟨e0, hwy⟩
        · refine wp_t e0 (oR (hs.1 53 1 rfl) (hs.2.2 0 1 53 54 rfl) (oS (hs.1 54 20 rfl) (hs.2.1 54 3 rfl) (i := 0) rfl (by decide) (by decide) (oR (hs.1 53 1 rfl) (hs.2.2 0 1 53 54 rfl) (oS (hs.1 54 20 rfl) (hs.2.1 54 3 rfl) (i := 1) rfl (by decide) (by decide) (oR (hs.1 53 1 rfl) (hs.2.2 0 1 53 54 rfl) (oS (hs.1 54 20 rfl) (hs.2.1 54 3 rfl) (i := 2) rfl (by decide) (by decide) (wp_some ⟨fi4, _, aj4, rfl, hS4.mem (fun a ha => by rw [up2_a ha, up2_a ha, up2_a ha]), rfl, n, m, c, Fst3 hK3 hnm hmc hc3 o1 o2 o3 hno, by rw [up2_i (by decide), up2_i (by decide), up2_s], by rw [up2_i (by decide), up2_s], up2_s⟩)))))))
        · refine wp_f e0 (hk3 hc3 _ _ (nI_1 c) ⟨by omega, fi4, ai4, aj4, rfl, hS4, fun a1 a2 h12 h2 h => ?_, nx hwy.opn⟩)
          rw [e56]; exact hK2 a1 a2 h12 h2 h
  · obtain ⟨fi', ai', aj', rfl, hS', h⟩ := hu
    exact wp_some ⟨fi', ai', aj', rfl, hS', Or.inr ⟨rfl, h⟩⟩
  · obtain ⟨fi', ai', aj', e, hS', h⟩ := hq
    exact wp_some ⟨fi', ai', aj', e, hS', Or.inl h⟩
theorem x_smallest (hs : xst b) (hW : WF T) (hP : XPic T b fi fj ai ar) (ht : t < 24) : wp (fX0_smallest 53 (fi 11 10 0) (fj 11 11 0) (nI t) (mk b fi fj ai aj ar)) (fun q => ∃ fi' fj' ai' aj', q.2 = mk b fi' fj' ai' aj' ar ∧ XPic T b fi' fj' ai' ar ∧ CutRes T t q.1 (fun i => ai' 54 i)) := by
  have hen : fi 11 10 0 = nI (tI T).1 := hP.2.2.2.2.2.2.1.1
  have hE : EntP (tB T) (tI T) (fj 11 11 0) := hP.2.2.2.2.2.2.1.2
  unfold fX0_smallest
  refine oW (hs.1 53 1 rfl) (oWJ (hs.1 53 1 rfl) (oW (hs.1 53 1 rfl) ?_))
  have hS : SF T t b (up3 (up3 fi 0 8 53 (fi 11 10 0)) 0 10 53 (nI t)) (up3 fj 0 9 53 (fj 11 11 0)) ai ar := ⟨hP.sc (fun c k a hc => by rw [up3_c (by omega), up3_c (by omega)]) (fun c k a hc => up3_c (by omega)) xsA.refl, by rw [up3_k (by decide), up3_s]; exact hen, by rw [up3_s]; exact hE, up3_s⟩
  refine oK2 (hs.1 53 1 rfl) (x_ow hs hW hS ht 0 tb_nil) (fun y u hq => ?_)
  obtain ⟨hq, fi2, ai2, aj2, e, hS2, _, _⟩ := hq
  dsimp only at hq e
  subst e
  rcases hq with ⟨e0, hno⟩ | ⟨e0, hwy⟩
  · exact wp_t e0 (wp_some ⟨fi2, _, ai2, aj2, rfl, hS2.1, Or.inr ⟨0, [], by decide, rfl, fun k h => absurd h (Nat.not_lt_zero _), Fst0 hno, fun i h => absurd h (Nat.not_lt_zero _)⟩⟩)
  have n0 := NoC0 hwy.opn
  refine wp_f e0 (oK2 (hs.1 53 1 rfl) (x_cutByOne hs hW hS2 ht e0 hwy) (fun y1 u hq => ?_))
  obtain ⟨fi3, ai3, aj3, e, hS3, hq⟩ := hq
  dsimp only at hq e
  subst e
  rcases hq with ⟨z1, c1, hf, hm⟩ | ⟨z1, hw1⟩
  · refine wp_f (by rw [z1]; decide) (wp_some ⟨fi3, _, ai3, aj3, rfl, hS3.1, Or.inr ⟨1, [c1], by decide, rfl, fun k h => ?_, hf, fun i h => ?_⟩⟩)
    · have : k = 0 := by omega
      subst this; exact n0
    · have : i = 0 := by omega
      subst this; exact hm
  have n1 : NoC T t 1 := NoC1 (fun a1 h => (hw1 a1 h).2.opn)
  refine wp_t z1 (oK2 (hs.1 53 1 rfl) (x_cutByTwo hs hW hS3 ht hw1) (fun y2 u hq => ?_))
  obtain ⟨fi4, ai4, aj4, e, hS4, hq⟩ := hq
  dsimp only at hq e
  subst e
  rcases hq with ⟨z2, c1, c2, hf, hm1, hm2⟩ | ⟨z2, hw2⟩
  · refine wp_f (by rw [z2]; decide) (wp_some ⟨fi4, _, ai4, aj4, rfl, hS4.1, Or.inr ⟨2, [c1, c2], by decide, rfl, fun k h => ?_, hf, fun i h => ?_⟩⟩)
    · rcases (show k = 0 ∨ k = 1 by omega) with rfl | rfl
      · exact n0
      · exact n1
    · rcases (show i = 0 ∨ i = 1 by omega) with rfl | rfl
      · exact hm1
      · exact hm2
  have n2 : NoC T t 2 := NoC2 (fun a1 a2 h12 h => (hw2 a1 a2 h12 h (by omega)).opn)
  refine wp_t z2 (oK2 (hs.1 53 1 rfl) (x_cutByThree hs hW hS4 ht hw2) (fun y3 u hq => ?_))
  obtain ⟨fi5, ai5, aj5, e, hS5, hq⟩ := hq
  dsimp only at hq e
  subst e
  rcases hq with ⟨z3, c1, c2, c3, hf, hm1, hm2, hm3⟩ | ⟨z3, n3⟩
  · refine wp_f (by rw [z3]; decide) (wp_some ⟨fi5, _, ai5, aj5, rfl, hS5.1, Or.inr ⟨3, [c1, c2, c3], by decide, rfl, fun k h => ?_, hf, fun i h => ?_⟩⟩)
    · rcases (show k = 0 ∨ k = 1 ∨ k = 2 by omega) with rfl | rfl | rfl
      · exact n0
      · exact n1
      · exact n2
    · rcases (show i = 0 ∨ i = 1 ∨ i = 2 by omega) with rfl | rfl | rfl
      · exact hm1
      · exact hm2
      · exact hm3
  · refine wp_t z3 (wp_some ⟨fi5, _, ai5, aj5, rfl, hS5.1, Or.inl ⟨rfl, fun k h => ?_⟩⟩)
    rcases (show k = 0 ∨ k = 1 ∨ k = 2 ∨ k = 3 by omega) with rfl | rfl | rfl | rfl
    · exact n0
    · exact n1
    · exact n2
    · exact n3
end
