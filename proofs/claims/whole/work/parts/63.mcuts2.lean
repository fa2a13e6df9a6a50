theorem snoc2 : ∀ {P : List Nat}, P.length ≤ 2 → P = [] ∨ ∃ P' p, P = P' ++ [p]
  | [], _ => Or.inl rfl
  | [a1], _ => Or.inr ⟨[], a1, rfl⟩
  | [a1, a2], _ => Or.inr ⟨[a1], a2, rfl⟩
theorem PInc.init {T : TS} {P : List Nat} {p : Nat} (h : PInc T (P ++ [p])) : PInc T P ∧ OnR T p ∧ ∀ i, i < P.length → g0 P i < p := by
  obtain ⟨h1, h2⟩ := h
  have hl := len_app (P := P) (v := p)
  refine ⟨⟨fun i hi => ?_, fun i hi => ?_, fun i hi => ?_⟩, ?_, fun i hi => ?_⟩
  · have := h1 i (by omega); rwa [g0_lt hi] at this
  · have := h2.1 i (by omega); rwa [g0_lt hi] at this
  · have := h2.2 i (by omega); rwa [g0_lt (by omega), g0_lt hi] at this
  · have := h1 P.length (by omega); rwa [g0_eq] at this
  · have := h2.lt (i := i) (j := P.length) hi (by omega); rwa [g0_lt hi, g0_eq] at this
section
variable {b : UH} {fi : Nat → Nat → Nat → Int32} {fj : Nat → Nat → Nat → Int64} {ai : Nat → Nat → Int32} {aj : Nat → Nat → Int64} {ar : Nat → Nat → Option Nat} {T : TS} {x1 x2 x3 x4 : Int32} {s n t k : Nat} {D : Nat → Bool}
theorem m_fc100 (hW : WF T) (hs : mst b) (ht : t < 24) (hk3 : k ≤ 3) {kk : Int32 → Int32 → UH → Option (Int32 × UH)} {P : List Nat} {v : Nat} (hn : P.length < k) (hP : PInc T P) (hv : ∀ i, i < P.length → g0 P i < v) (hv36 : v ≤ 36) (c1 : ∀ i, i < P.length → ai 11 i = nI (g0 P i)) (c2 : ∀ j, P.length < j → j < k → ai 11 j = -1) (hE : Ex T t k (P ++ [v])) (hM : MQ2 T (dl P) fi ai) (hc : ai 11 P.length + 1 = nI v)
    (hk : ∀ m y1 y2 u, m < 54872 - enc (P ++ [v]) → LoI T t k b fi fj ar m y1 y2 u → wp (kk y1 y2 u) (LoO T t k b fi fj ar)) : wp (fX12_findCut_100 kk 0 (nI t) (nI k) (nI P.length) 0 (mk b fi fj ai aj ar)) (LoO T t k b fi fj ar) := by
  have hn3 : P.length < 3 := by omega
  have hlt := enc_le hv36 (P := P) (by omega) (fun i hi => hP.2.1 i hi)
  unfold fX12_findCut_100
  refine mR hs rfl (mL hs rfl rfl (by decide) rfl hn3 (mS hs rfl rfl (by decide) rfl hn3 ?_))
  rw [hc]
  have hM1 : MQ2 T (dl P) fi (up2 ai 11 P.length (nI v)) := hM.cut (fun a ha => up2_a ha)
  refine wp_obw (m_scan (v := v) hW hs hn3 hM1 up2_s hv36 (fun x hx => dl_no (fun i hi => Nat.lt_of_lt_of_le (hv i hi) hx))) (fun u hu => ?_)
  obtain ⟨c, hvc, hc36, hno, hon, ai', rfl, a1, a2, a3⟩ := hu
  have hM2 : MQ2 T (dl P) fi ai' := hM1.cut a1
  have hE2 : Ex T t k (P ++ [c]) := hE.scan hn hno
  have d1 : ∀ i, i < P.length → ai' 11 i = nI (g0 P i) := fun i hi => by rw [a3 i (by omega), up2_i (by omega)]; exact c1 i hi
  have d2 : ∀ j, P.length < j → j < k → ai' 11 j = -1 := fun j h1 h2 => by rw [a3 j (by omega), up2_i (by omega)]; exact c2 j h1 h2
  have hv' : ∀ i, i < P.length → g0 P i < c := fun i hi => Nat.lt_of_lt_of_le (hv i hi) hvc
  unfold fX12_findCut_147
  refine mR hs rfl (mL hs rfl rfl (by decide) rfl hn3 ?_)
  rw [a2]
  refine wp_eqq (b := 36) rfl rfl (by omega) (by decide) (fun e36 => ?_) (fun e36 => ?_)
  · subst e36
    refine mR hs rfl (mS hs rfl rfl (by decide) rfl hn3 ?_)
    rcases snoc2 (P := P) (by omega) with e | ⟨P', p, e⟩
    · subst e
      refine hk 0 _ _ _ (by omega) ⟨_, aj, rfl, Or.inr (Or.inl ⟨rfl, by decide, hM2.cut (fun a ha => up2_a ha), fun j hj => ?_, hE2.stop (by omega)⟩)⟩
      rw [up2_is]
      by_cases ej : j = 0
      · exact if_pos ej
      · have h0 : ¬ j = ([] : List Nat).length := ej
        rw [if_neg h0]
        exact d2 j (by show 0 < j; omega) hj
    · obtain ⟨q1, q2, q3⟩ := (e ▸ hP : PInc T (P' ++ [p])).init
      have hl : P.length = P'.length + 1 := by rw [e]; exact len_app
      have hgp : g0 P P'.length = p := by rw [e]; exact g0_eq
      have hgl : ∀ i, i < P'.length → g0 P i = g0 P' i := fun i hi => by rw [e]; exact g0_lt hi
      have hd := q2.1
      rw [nI_dec' (by omega), show P.length - 1 = P'.length by omega]
      have he := enc_c (p := p) hv36 (P := P') (by omega)
      rw [← e] at he
      have hle := enc_le (v := p + 1) (by omega) (P := P') (by omega) (fun i hi => q1.2.1 i hi)
      refine hk (54872 - enc (P' ++ [p + 1])) _ _ _ (by omega) ⟨_, aj, rfl, Or.inl ⟨rfl, P', p + 1, rfl, ⟨by omega, q1, fun i hi => Nat.lt_succ_of_lt (q3 i hi), by omega, fun i hi => ?_, fun j h1 h2 => ?_, ?_, Or.inr ⟨by omega, fun i hi => by rw [Nat.add_sub_cancel]; exact q3 i hi, ?_, ?_, ?_⟩⟩, rfl⟩⟩
      · rw [up2_i (by omega), d1 i (by omega), hgl i hi]
      · rw [up2_is]
        by_cases ej : j = P.length
        · exact if_pos ej
        · rw [if_neg ej]; exact d2 j (by omega) h2
      · rw [e] at hE2; exact hE2.back (by omega)
      · rw [up2_i (by omega), d1 _ (by omega), hgp]; rfl
      · rw [Nat.add_sub_cancel]; exact q2
      · rw [Nat.add_sub_cancel, ← e]; exact hM2.cut (fun a ha => up2_a ha)
  · have hc : c < 36 := by omega
    have ho := hon hc
    refine mR hs rfl (mL hs rfl rfl (by decide) rfl hn3 ?_)
    rw [a2]
    refine mE hs (m_turn hs hc 0) ?_
    have hM3 := hM2.off hW hc
    have f11 : ∀ j, up2 ai' 2 (7 * c + 6) (0 : Int32) 11 j = ai' 11 j := fun j => by rw [up2_a (by decide)]
    have hPc : PInc T (P ++ [c]) := hP.snoc ho hv'
    generalize up2 ai' 2 (7 * c + 6) (0 : Int32) = ai3 at hM3 f11
    rw [nI_dec (i := k) (by omega)]
    refine wp_eqq rfl rfl (by omega) (by omega) (fun en => ?_) (fun en => ?_)
    · refine mK2 hs (m_isStopped hW hs hM3 ht) (fun y u hq => ?_)
      obtain ⟨aj4, e4, hy⟩ := hq
      dsimp only at e4 hy
      subst e4
      have g202 : ∀ s0 : Int32, (∀ u, wp (kk (nI P.length) s0 (mk b fi fj ai3 aj4 ar)) u → wp (fX12_findCut_202 kk 0 (nI t) (nI k) (nI P.length) s0 (mk b fi fj ai3 aj4 ar)) u) := by
        intro s0 u hu
        unfold fX12_findCut_202
        rw [nI_dec (i := k) (by omega)]
        refine wp_t (nI_le (by omega) (by omega)) (wp_lt ?_)
        rw [add0]; exact hu
      rcases hy with ⟨y1, hst⟩ | ⟨y1, hop⟩
      · refine wp_f (by rw [y1]; decide) (g202 1 _ (hk 0 _ _ _ (by omega) ⟨ai3, aj4, rfl, Or.inr (Or.inr ⟨rfl, by rw [en], P ++ [c], ⟨by rw [len_app]; omega, hPc.2, ⟨hPc.1, hst⟩, hE2⟩, hM3, fun i hi => ?_⟩)⟩))
        rw [f11]
        by_cases ei : i = P.length
        · rw [ei, g0_eq]; exact a2
        · rw [g0_lt (by omega)]; exact d1 i (by omega)
      · have he := enc_a (v := v) (v' := c + 1) (by omega) (P := P) (by omega)
        have hle := enc_le (v := c + 1) (by omega) (P := P) (by omega) (fun i hi => hP.2.1 i hi)
        refine wp_t y1 ?_
        unfold fX12_findCut_201
        refine g202 0 _ (hk (54872 - enc (P ++ [c + 1])) _ _ _ (by omega) ⟨ai3, aj4, rfl, Or.inl ⟨rfl, P, c + 1, rfl, ⟨hn, hP, fun i hi => Nat.lt_succ_of_lt (hv' i hi), by omega, fun i hi => ?_, fun j h1 h2 => ?_, hE2.next (by omega) (fun z => z.2 hop), Or.inr ⟨by omega, fun i hi => by rw [Nat.add_sub_cancel]; exact hv' i hi, ?_, ?_, ?_⟩⟩, rfl⟩⟩)
        · rw [f11]; exact d1 i hi
        · rw [f11]; exact d2 j h1 h2
        · rw [f11, Nat.add_sub_cancel]; exact a2
        · rw [Nat.add_sub_cancel]; exact ho
        · rw [Nat.add_sub_cancel]; exact hM3
    · have he := enc_b hvc (P := P) (by omega)
      have hle := enc_le (v := c + 1) (by omega) (P := P ++ [c]) (by rw [len_app]; omega) (fun i hi => hPc.2.1 i hi)
      unfold fX12_findCut_201 fX12_findCut_202
      rw [nI_dec (i := k) (by omega)]
      refine wp_f (nI_ge (show P.length < k - 1 by omega) (by omega)) (wp_lt ?_)
      refine hk (54872 - enc ((P ++ [c]) ++ [c + 1])) _ _ _ (by omega) ⟨ai3, aj, rfl, Or.inl ⟨rfl, P ++ [c], c + 1, by rw [len_app, nI_1], ⟨by rw [len_app]; omega, hPc, fun i hi => ?_, by omega, fun i hi => ?_, fun j h1 h2 => ?_, hE2.down (by omega), Or.inl ⟨?_, ?_, hM3⟩⟩, rfl⟩⟩
      · rw [len_app] at hi
        by_cases ei : i = P.length
        · rw [ei, g0_eq]; omega
        · rw [g0_lt (by omega)]; exact Nat.lt_succ_of_lt (hv' i (by omega))
      · rw [len_app] at hi
        rw [f11]
        by_cases ei : i = P.length
        · rw [ei, g0_eq]; exact a2
        · rw [g0_lt (by omega)]; exact d1 i (by omega)
      · rw [len_app] at h1
        rw [f11]; exact d2 j (by omega) h2
      · rw [len_app, f11]; exact d2 _ (by omega) (by omega)
      · rw [len_app, if_neg (by omega), Nat.add_sub_cancel, g0_eq]
theorem m_fcLoop (hW : WF T) (hs : mst b) (ht : t < 24) (hk1 : 1 ≤ k) (hk3 : k ≤ 3) {m : Nat} {u : UH} (hI : LoI T t k b fi fj ar m x3 x4 u) (hm : m < FUEL) : wp (it3 (fX12_findCut_B41 0 (nI t) (nI k)) FUEL x3 x4 u) (LoO T t k b fi fj ar) := by
  refine it3_gh (I := fun m y3 y4 u => LoI T t k b fi fj ar m y3 y4 u) (fun kk m y3 y4 u hI hk => ?_) FUEL m _ _ _ hI hm
  obtain ⟨ai, aj, rfl, hI⟩ := hI
  unfold fX12_findCut_B41
  rcases hI with ⟨rfl, P, v, rfl, ⟨l1, l2, l3, l4, l5, l6, l7, l8⟩, rfl⟩ | ⟨rfl, rfl, h1, h2, h3⟩ | ⟨rfl, rfl, l, h1, h2, h3⟩
  · have hn3 : P.length < 3 := by omega
    refine wp_f (nI_pos (by omega)) (wp_f (nI_ge l1 (by omega)) (wp_t rfl (mR hs rfl (mL hs rfl rfl (by decide) rfl hn3 ?_))))
    rcases l8 with ⟨e1, e2, hM⟩ | ⟨e0, ev, e1, ho, hM⟩
    · rw [e1]
      refine wp_t (by decide) (mR hs rfl ?_)
      refine wp_eqq (b := 0) rfl rfl (by omega) (by decide) (fun e => ?_) (fun e => ?_)
      · rw [if_pos e] at e2
        unfold fX12_findCut_99
        refine mS hs rfl rfl (by decide) rfl hn3 (m_fc100 hW hs ht hk3 l1 l2 l3 l4 (fun i hi => by rw [up2_i (by omega)]; exact l5 i hi) (fun j h1 h2 => by rw [up2_i (by omega)]; exact l6 j h1 h2) l7 (hM.cut (fun a ha => up2_a ha)) ?_ hk)
        rw [up2_s, e2]; decide
      · rw [if_neg e] at e2
        refine mR hs rfl ?_
        rw [nI_dec (by omega)]
        refine mL hs rfl rfl (by decide) rfl (by omega) ?_
        unfold fX12_findCut_99
        refine mS hs rfl rfl (by decide) rfl hn3 (m_fc100 hW hs ht hk3 l1 l2 l3 l4 (fun i hi => by rw [up2_i (by omega)]; exact l5 i hi) (fun j h1 h2 => by rw [up2_i (by omega)]; exact l6 j h1 h2) l7 (hM.cut (fun a ha => up2_a ha)) ?_ hk)
        rw [up2_s, l5 _ (by omega), e2, nI_1]
    · have hv1 := ho.1
      rw [e1]
      refine wp_f (nI_pos (by omega)) (mR hs rfl (mL hs rfl rfl (by decide) rfl hn3 ?_))
      rw [e1]
      refine mE hs (m_turn hs hv1 1) ?_
      have f11 : ∀ j, up2 ai 2 (7 * (v - 1) + 6) (1 : Int32) 11 j = ai 11 j := fun j => by rw [up2_a (by decide)]
      have hM3 : MQ2 T (dl P) fi (up2 ai 2 (7 * (v - 1) + 6) 1) := hM.on hW ho (fun x hx => by
        rw [Bool.eq_iff_iff, dl_mem, dl_mem, List.mem_append, List.mem_singleton]
        exact ⟨Or.inl, fun z => z.elim id (fun z => absurd z hx)⟩) (dl_no ev)
      refine m_fc100 hW hs ht hk3 l1 l2 l3 l4 (fun i hi => by rw [f11]; exact l5 i hi) (fun j h1 h2 => by rw [f11]; exact l6 j h1 h2) l7 hM3 ?_ hk
      rw [f11, e1, nI_1, show v - 1 + 1 = v by omega]
  · exact wp_t (by decide) (wp_some ⟨ai, aj, rfl, Or.inl ⟨rfl, h1, h2, h3⟩⟩)
  · exact wp_f (nI_pos (by omega)) (wp_f (nI_ge (show k - 1 < k by omega) (by omega)) (wp_f (by decide) (wp_some ⟨ai, aj, rfl, Or.inr ⟨rfl, l, h1, h2, h3⟩⟩)))
/-- all that was switched off is switched on again -/
theorem m_fc222 (hW : WF T) (hs : mst b) (hk3 : k ≤ 3) {q : Int32 × UH} (hq : LoO T t k b fi fj ar q) : wp (fX12_findCut_222 0 (nI k) q.1 q.2) (fun q => ∃ ai' aj', q.2 = mk b fi fj ai' aj' ar ∧ MPic T fi ai' ∧ ((q.1 = 1 ∧ ∃ l, Fst T t k l ∧ ∀ i, i < k → ai' 11 i = nI (g0 l i)) ∨ (q.1 = 0 ∧ NoC T t k))) := by
  obtain ⟨ai, aj, e, hq⟩ := hq
  rw [e]
  unfold fX12_findCut_222
  rcases hq with ⟨z1, hM, h11, hN⟩ | ⟨z1, l, hF, hM, h11⟩
  · rw [z1]
    refine wp_obw (Q := fun u => u = mk b fi fj ai aj ar) ?_ (fun u hu => by subst hu; exact wp_bz (Or.inl rfl) (wp_some ⟨ai, aj, rfl, hM.nil, Or.inr ⟨rfl, hN⟩⟩))
    refine it2_up1F (show (0 : Int32) = nI 0 from rfl) k (by omega) (fun n u => u = mk b fi fj ai aj ar) (fun kk n u hn hI hk => ?_) (Nat.zero_le _) rfl
    subst hI
    unfold fX12_findCut_B225
    refine wp_le rfl rfl (by omega) (by omega) (fun hc => wp_some rfl) (fun hc => mR hs rfl (mL hs rfl rfl (by decide) rfl (by omega) ?_))
    rw [h11 n hc]
    exact wp_t (by decide) (hk hc _ _ (nI_1 n) rfl)
  · rw [z1]
    obtain ⟨f1, f2, f3, f4⟩ := hF
    refine wp_obw (Q := fun u => ∃ ai', u = mk b fi fj ai' aj ar ∧ MPic T fi ai' ∧ ∀ i, i < k → ai' 11 i = nI (g0 l i)) ?_ (fun u hu => ?_)
    · refine it2_up1F (show (0 : Int32) = nI 0 from rfl) k (by omega) (fun n u => ∃ ai', u = mk b fi fj ai' aj ar ∧ MQ2 T (dl (l.drop n)) fi ai' ∧ ∀ i, i < k → ai' 11 i = nI (g0 l i)) (fun kk n u hn hI hk => ?_) (Nat.zero_le _) ⟨ai, rfl, hM, h11⟩
      obtain ⟨ai', rfl, g1, g2⟩ := hI
      unfold fX12_findCut_B225
      refine wp_le rfl rfl (by omega) (by omega) (fun hc => wp_some ⟨ai', rfl, ?_, g2⟩) (fun hc => mR hs rfl (mL hs rfl rfl (by decide) rfl (by omega) ?_))
      · have : l.drop n = [] := List.drop_eq_nil_of_le (by omega)
        rw [this] at g1
        exact g1.nil
      have hon := f3.1 n (by omega)
      have h36 := hon.1
      rw [g2 n hc]
      refine wp_f (nI_pos (by omega)) (mR hs rfl (mL hs rfl rfl (by decide) rfl (by omega) ?_))
      rw [g2 n hc]
      refine mE hs (m_turn hs h36 1) (hk hc _ _ (nI_1 n) ⟨_, rfl, g1.on hW hon (fun x hx => ?_) ?_, fun i hi => by rw [up2_a (by decide)]; exact g2 i hi⟩)
      · rw [Bool.eq_iff_iff, dl_mem, dl_mem, mem_g0, mem_g0]
        constructor
        · rintro ⟨j, h1, h2, h3⟩; exact ⟨j, by omega, h2, h3⟩
        · rintro ⟨j, h1, h2, h3⟩
          refine ⟨j, ?_, h2, h3⟩
          have : j ≠ n := fun ej => hx (by rw [← h3, ej])
          omega
      · cases hq : dl (l.drop (n + 1)) (g0 l n) with
        | false => rfl
        | true =>
          obtain ⟨j, h1, h2, h3⟩ := mem_g0.mp ((dl_mem _ _).mp hq)
          have := f2.lt (i := n) (j := j) (by omega) h2
          omega
    · obtain ⟨ai', rfl, g1, g2⟩ := hu
      exact wp_bz (Or.inr rfl) (wp_some ⟨ai', aj, rfl, g1, Or.inl ⟨rfl, l, ⟨f1, f2, f3, f4⟩, g2⟩⟩)
theorem m_findCut (hW : WF T) (hs : mst b) (hM : MPic T fi ai) (ht : t < 24) (hk3 : k ≤ 3) : wp (fX12_findCut 0 (nI t) (nI k) (mk b fi fj ai aj ar)) (fun q => ∃ ai' aj', q.2 = mk b fi fj ai' aj' ar ∧ MPic T fi ai' ∧ ((q.1 = 1 ∧ ∃ l, Fst T t k l ∧ ∀ i, i < k → ai' 11 i = nI (g0 l i)) ∨ (q.1 = 0 ∧ NoC T t k))) := by
  unfold fX12_findCut
  refine wp_obw (Q := fun u => ∃ ai', u = mk b fi fj ai' aj ar ∧ MQ2 T (dl []) fi ai' ∧ ∀ i, i < k → ai' 11 i = -1) ?_ (fun u hu => ?_)
  · refine it2_up1F (show (0 : Int32) = nI 0 from rfl) k (by omega) (fun n u => ∃ ai', u = mk b fi fj ai' aj ar ∧ MQ2 T (dl []) fi ai' ∧ ∀ i, i < n → ai' 11 i = -1) (fun kk n u hn hI hk => ?_) (Nat.zero_le _) ⟨ai, rfl, MQ2.of hM, fun i hi => absurd hi (Nat.not_lt_zero _)⟩
    obtain ⟨ai', rfl, g1, g2⟩ := hI
    unfold fX12_findCut_B2
    refine wp_le rfl rfl (by omega) (by omega) (fun hc => wp_some ⟨ai', rfl, g1, fun i hi => g2 i (by omega)⟩) (fun hc => mR hs rfl (mS hs rfl rfl (by decide) rfl (by omega) (hk hc _ _ (nI_1 n) ⟨_, rfl, g1.cut (fun a ha => up2_a ha), fun i hi => ?_⟩)))
    rw [up2_is]
    by_cases e : i = n
    · exact if_pos e
    · rw [if_neg e]; exact g2 i (by omega)
  · obtain ⟨ai1, rfl, g1, g2⟩ := hu
    refine wp_eqq (b := 0) rfl rfl (by omega) (by decide) (fun e => ?_) (fun e => ?_)
    · subst e
      refine mK2 hs (m_isStopped hW hs g1 ht) (fun y u hq => ?_)
      obtain ⟨aj2, e2, hy⟩ := hq
      dsimp only at e2 hy
      subst e2
      have g39 : ∀ s0 : Int32, LoO T t 0 b fi fj ar (s0, mk b fi fj ai1 aj2 ar) → wp (fX12_findCut_39 0 (nI t) (nI 0) 0 s0 (mk b fi fj ai1 aj2 ar)) (fun q => ∃ ai' aj', q.2 = mk b fi fj ai' aj' ar ∧ MPic T fi ai' ∧ ((q.1 = 1 ∧ ∃ l, Fst T t 0 l ∧ ∀ i, i < 0 → ai' 11 i = nI (g0 l i)) ∨ (q.1 = 0 ∧ NoC T t 0))) := by
        intro s0 h0
        unfold fX12_findCut_39
        refine wp_obw (Q := fun q => q = (s0, mk b fi fj ai1 aj2 ar)) ?_ (fun q hq => by subst hq; exact m_fc222 hW hs hk3 h0)
        refine it3_gh (I := fun m y3 y4 u => y3 = 0 ∧ y4 = s0 ∧ u = mk b fi fj ai1 aj2 ar) (fun kk m y3 y4 u hI hk => ?_) FUEL 0 _ _ _ ⟨rfl, rfl, rfl⟩ (by unfold FUEL; decide)
        obtain ⟨rfl, rfl, rfl⟩ := hI
        unfold fX12_findCut_B41
        exact wp_f (by decide) (wp_t (by decide) (wp_some rfl))
      rcases hy with ⟨y1, hst⟩ | ⟨y1, hop⟩
      · exact wp_f (by rw [y1]; decide) (g39 1 ⟨ai1, aj2, rfl, Or.inr ⟨rfl, [], Fst0 hst, g1, fun i hi => absurd hi (Nat.not_lt_zero _)⟩⟩)
      · refine wp_t y1 ?_
        unfold fX12_findCut_38
        exact g39 0 ⟨ai1, aj2, rfl, Or.inl ⟨rfl, g1, fun i hi => absurd hi (Nat.not_lt_zero _), NoC0 hop⟩⟩
    · unfold fX12_findCut_38 fX12_findCut_39
      refine wp_obw (m_fcLoop (m := 54872 - enc ([] ++ [0])) hW hs ht (by omega) hk3 ⟨ai1, aj, rfl, Or.inl ⟨rfl, [], 0, rfl, ⟨by show 0 < k; omega, ⟨fun i hi => absurd hi (Nat.not_lt_zero _), fun i hi => absurd hi (Nat.not_lt_zero _), fun i hi => absurd hi (Nat.not_lt_zero _)⟩, fun i hi => absurd hi (Nat.not_lt_zero _), by decide, fun i hi => absurd hi (Nat.not_lt_zero _), fun j _ hj => g2 j hj, Ex.zero, Or.inl ⟨g2 0 (by omega), rfl, g1⟩⟩, rfl⟩⟩ (by unfold FUEL; omega)) (fun q hq => m_fc222 hW hs hk3 hq)
theorem m_findSize (hW : WF T) (hs : mst b) (hM : MPic T fi ai) (ht : t < 24) : wp (fX12_findSize 0 (nI t) (mk b fi fj ai aj ar)) (fun q => ∃ ai' aj', q.2 = mk b fi fj ai' aj' ar ∧ MPic T fi ai' ∧ CutRes T t q.1 (fun i => ai' 11 i)) := by
  unfold fX12_findSize
  refine wp_oew (Q := fun q => match q with
    | .inl u => ∃ ai' aj', u = mk b fi fj ai' aj' ar ∧ MPic T fi ai' ∧ ∀ k, k < 4 → NoC T t k
    | .inr q => ∃ ai' aj', q.2 = mk b fi fj ai' aj' ar ∧ MPic T fi ai' ∧ CutRes T t q.1 (fun i => ai' 11 i)) ?_ (fun u hu => ?_) (fun q hq => wp_some hq)
  · refine it2_up1F (show (0 : Int32) = nI 0 from rfl) 4 (by decide) (fun n u => ∃ ai' aj', u = mk b fi fj ai' aj' ar ∧ MPic T fi ai' ∧ ∀ k, k < n → NoC T t k) (fun kk n u hn hI hk => ?_) (Nat.zero_le _) ⟨ai, aj, rfl, hM, fun i hi => absurd hi (Nat.not_lt_zero _)⟩
    obtain ⟨ai', aj', rfl, g1, g2⟩ := hI
    unfold fX12_findSize_B2
    refine wp_le (a := 4) rfl rfl (by decide) (by omega) (fun hc => wp_some ⟨ai', aj', rfl, g1, fun k hk' => g2 k (by omega)⟩) (fun hc => ?_)
    refine mK2 hs (m_findCut hW hs g1 ht (by omega)) (fun y u hq => ?_)
    obtain ⟨ai2, aj2, e2, g3, hy⟩ := hq
    dsimp only at e2 hy
    subst e2
    rcases hy with ⟨y1, l, hF, h11⟩ | ⟨y1, hN⟩
    · exact wp_f (by rw [y1]; decide) (wp_some ⟨ai2, aj2, rfl, g3, Or.inr ⟨n, l, hc, rfl, g2, hF, h11⟩⟩)
    · refine wp_t y1 (hk hc _ _ (nI_1 n) ⟨ai2, aj2, rfl, g3, fun k hk' => ?_⟩)
      by_cases e : k = n
      · rw [e]; exact hN
      · exact g2 k (by omega)
  · obtain ⟨ai', aj', rfl, g1, g2⟩ := hu
    exact wp_some ⟨ai', aj', rfl, g1, Or.inl ⟨rfl, g2⟩⟩
end
section PUB
variable {T : TS} {x m : UH} {x1 x2 x3 x4 x5 x6 : Int32}
theorem s_cutSize (hR : RR T x m) : SIM T (fX11_cutSize 0 x1 x2 x) (fX12_cutSize 0 x1 x2 m) := by
  obtain ⟨hW, ⟨hs, hd, hP⟩, hms, hM⟩ := hR
  rcases pl_or x1 x2 with ⟨i, j, hi, hj, rfl, rfl⟩ | hb
  · have hp : 4 * i + j < 24 := by omega
    obtain ⟨⟨r, u⟩, e1, ai1, aj1, hu, hM1, hr⟩ := m_findSize (fj := uJ m) (aj := uAJ m) (ar := uAR m) hW hms hM hp
    dsimp only at hr hu
    subst hu
    refine sim (T' := T) (r := r) hW ?_ ?_
    · show wp (fX11_cutSize 0 (nI i) (nI j) (mk x (uI x) (uJ x) (uAI x) (uAJ x) (uAR x))) _
      unfold fX11_cutSize
      refine wp_obe (x_isPlace_ok _ rfl rfl hi hj) (wp_f (by decide) (oR (hs.1 0 12 rfl) (hs.2.2 11 5 0 53 rfl) (oi (hs.1 0 12 rfl) (oJ (hs.1 0 12 rfl) (wp_obe (x_placeOf _ rfl rfl) ?_)))))
      refine oK2 (hs.1 53 1 rfl) (x_smallest hs hW hP hp) (fun y u hq => ?_)
      obtain ⟨fi2, fj2, ai2, aj2, e2, hP2, hc⟩ := hq
      dsimp only at e2 hc
      subst e2
      exact wp_some ⟨(hc.eq hr).1, XR_mk hs hd hP2⟩
    · show wp (fX12_cutSize 0 (nI i) (nI j) (mk m (uI m) (uJ m) (uAI m) (uAJ m) (uAR m))) _
      unfold fX12_cutSize
      refine wp_obe (m_noPlace_ok _ rfl rfl hi hj) (wp_t rfl ?_)
      rw [pl1]
      exact mE2 hms e1 (wp_some ⟨rfl, MR_mk hms hM1⟩)
  · refine sim (T' := T) (r := -1) hW ?_ ?_
    · unfold fX11_cutSize
      exact wp_obe (x_isPlace_bad _ hb) (wp_t rfl (wp_some ⟨rfl, hs, hd, hP⟩))
    · unfold fX12_cutSize
      exact wp_obe (m_noPlace_bad _ hb) (wp_f (by decide) (wp_some ⟨rfl, hms, hM⟩))
theorem s_cutRule (hR : RR T x m) : SIM T (fX11_cutRule 0 x1 x2 x3 x) (fX12_cutRule 0 x1 x2 x3 m) := by
  obtain ⟨hW, ⟨hs, hd, hP⟩, hms, hM⟩ := hR
  rcases pl_or x1 x2 with ⟨i, j, hi, hj, rfl, rfl⟩ | hb
  · have hp : 4 * i + j < 24 := by omega
    by_cases h0 : x3 < 0
    · have h0' : ¬ (0 : Int32) ≤ x3 := fun z => by
        have h1 := Int32.lt_iff_toInt_lt.mp h0
        have h2 := Int32.le_iff_toInt_le.mp z
        omega
      refine sim (T' := T) (r := -3) hW ?_ ?_
      · unfold fX11_cutRule
        exact wp_obe (x_isPlace_ok _ rfl rfl hi hj) (wp_f (by decide) (wp_f h0' (wp_some ⟨rfl, hs, hd, hP⟩)))
      · unfold fX12_cutRule
        exact wp_obe (m_noPlace_ok _ rfl rfl hi hj) (wp_t rfl (wp_f h0' (wp_some ⟨rfl, hms, hM⟩)))
    · obtain ⟨k, hk31, rfl⟩ := nI_of h0
      obtain ⟨⟨r, u⟩, e1, ai1, aj1, hu, hM1, hr⟩ := m_findSize (fj := uJ m) (aj := uAJ m) (ar := uAR m) hW hms hM hp
      dsimp only at hr hu
      subst hu
      obtain ⟨⟨z, u⟩, e2, fi2, fj2, ai2, aj2, hu, hP2, hz⟩ := x_smallest (aj := uAJ x) hs hW hP hp
      dsimp only at hz hu
      subst hu
      obtain ⟨ez, hk⟩ := hz.eq hr
      subst ez
      have hle : ((z = -6 ∨ ∃ n, n < 4 ∧ z = nI n ∧ n ≤ k) → z ≤ nI k) := by
        rintro (e | ⟨n, _, e, h⟩)
        · rw [e]
          refine Int32.le_iff_toInt_le.mpr ?_
          rw [nI_toInt hk31]
          have : (-6 : Int32).toInt = -6 := by decide
          omega
        · rw [e]; exact nI_le h hk31
      by_cases hc : z = -6 ∨ ∃ n, n < 4 ∧ z = nI n ∧ n ≤ k
      · refine sim (T' := T) (r := -6) hW ?_ ?_
        · show wp (fX11_cutRule 0 (nI i) (nI j) (nI k) (mk x (uI x) (uJ x) (uAI x) (uAJ x) (uAR x))) _
          unfold fX11_cutRule
          refine wp_obe (x_isPlace_ok _ rfl rfl hi hj) (wp_f (by decide) (wp_t (nI_pos' hk31) (oR (hs.1 0 12 rfl) (hs.2.2 11 5 0 53 rfl) (oi (hs.1 0 12 rfl) (oJ (hs.1 0 12 rfl) (wp_obe (x_placeOf _ rfl rfl) ?_))))))
          exact wp_ob2 (wp_kd (hs.1 53 1 rfl) ⟨_, e2, wp_t (hle hc) (wp_some ⟨rfl, XR_mk hs hd hP2⟩)⟩)
        · show wp (fX12_cutRule 0 (nI i) (nI j) (nI k) (mk m (uI m) (uJ m) (uAI m) (uAJ m) (uAR m))) _
          unfold fX12_cutRule
          refine wp_obe (m_noPlace_ok _ rfl rfl hi hj) (wp_t rfl (wp_t (nI_pos' hk31) ?_))
          rw [pl1]
          exact mE2 hms e1 (wp_t (hle hc) (wp_some ⟨rfl, MR_mk hms hM1⟩))
      · rcases hk with e | ⟨n, hn, e, hk⟩
        · exact absurd (Or.inl e) hc
        · have hkn : k < n := by
            rcases Nat.lt_or_ge k n with h | h
            · exact h
            · exact absurd (Or.inr ⟨n, hn, e, h⟩) hc
          obtain ⟨h11, s, hs36, hs54⟩ := hk k hkn
          refine sim (T' := T) (r := (10 : Int32) * (nI s / 6) + jrem (nI s) 6) hW ?_ ?_
          · show wp (fX11_cutRule 0 (nI i) (nI j) (nI k) (mk x (uI x) (uJ x) (uAI x) (uAJ x) (uAR x))) _
            unfold fX11_cutRule
            refine wp_obe (x_isPlace_ok _ rfl rfl hi hj) (wp_f (by decide) (wp_t (nI_pos' hk31) (oR (hs.1 0 12 rfl) (hs.2.2 11 5 0 53 rfl) (oi (hs.1 0 12 rfl) (oJ (hs.1 0 12 rfl) (wp_obe (x_placeOf _ rfl rfl) ?_))))))
            refine wp_ob2 (wp_kd (hs.1 53 1 rfl) ⟨_, e2, ?_⟩)
            dsimp only
            rw [e]
            refine wp_f (nI_ge hkn (by omega)) (wp_t (nI_lt (show k < 3 by omega) (by decide)) (oR (hs.1 0 12 rfl) (hs.2.2 11 5 0 53 rfl) (oR (hs.1 53 1 rfl) (hs.2.2 0 1 53 54 rfl) (oL (hs.1 54 20 rfl) (hs.2.1 54 3 rfl) rfl (by omega) (by decide) (wp_some ⟨?_, XR_mk hs hd hP2⟩)))))
            rw [hs54]
          · show wp (fX12_cutRule 0 (nI i) (nI j) (nI k) (mk m (uI m) (uJ m) (uAI m) (uAJ m) (uAR m))) _
            unfold fX12_cutRule
            refine wp_obe (m_noPlace_ok _ rfl rfl hi hj) (wp_t rfl (wp_t (nI_pos' hk31) ?_))
            rw [pl1]
            refine mE2 hms e1 ?_
            rw [e]
            refine wp_f (nI_ge hkn (by omega)) (mR hms rfl (mL hms rfl rfl (by decide) rfl (by omega) (mR hms rfl (mL hms rfl rfl (by decide) rfl (by omega) (wp_some ⟨?_, MR_mk hms hM1⟩)))))
            rw [← h11, hs54]
  · refine sim (T' := T) (r := -1) hW ?_ ?_
    · unfold fX11_cutRule
      exact wp_obe (x_isPlace_bad _ hb) (wp_t rfl (wp_some ⟨rfl, hs, hd, hP⟩))
    · unfold fX12_cutRule
      exact wp_obe (m_noPlace_bad _ hb) (wp_f (by decide) (wp_some ⟨rfl, hms, hM⟩))
end PUB
