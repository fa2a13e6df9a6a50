section
variable {b : UH} {fi : Nat → Nat → Nat → Int32} {fj : Nat → Nat → Nat → Int64} {ai : Nat → Nat → Int32} {aj : Nat → Nat → Int64} {ar : Nat → Nat → Option Nat} {T : TS} {x1 x2 x3 : Int32} {p h box outs t : Nat} {s : Int64} {bits : Nat} {lk : LK} {rb : RB}
def saS (aj : Nat → Nat → Int64) : PS := fun q g => tb (aj 10 q) g = true
theorem m_isSafe (hs : mst b) (hN : NowP (ai 2) rb) (hK : LkP (ai 1) lk) (hbw : BW bits) (hL : LKW lk) (hW : RBW bits rb) (h1 : x1 = nI p) (hp : p < 24) (h2 : x2 = nI h) (hh : h < 2 ^ bits) : wp (fX12_isSafe 0 x1 x2 (mk b fi fj ai aj ar)) (fun q => (q = 0 ∨ q = 1) ∧ (q ≠ 0 ↔ PhE lk rb (saS aj) p h)) := by
  have hb6 : p / 4 < 6 := by omega
  have h4 : p % 4 < 4 := Nat.mod_lt _ (by decide)
  have h32 := lt32 hbw hh
  have hl6 := (hW (p / 4) hb6).1
  unfold fX12_isSafe
  refine wp_lt ?_
  rw [h1, dv4 (by omega), rm4 (by omega)]
  refine mE hs (m_handler hs hN hbw hW rfl hb6 rfl h4 h2 h32) ?_
  cases hhd : hd (rb (p / 4)) (p % 4) h with
  | none =>
    refine wp_obw (Q := fun q => q = 1) ?_ (fun q hq => by subst hq; exact wp_bz (Or.inr rfl) (wp_some ⟨Or.inr rfl, fun _ q g hS => absurd hS (Sp1_no hhd), fun _ => by decide⟩))
    refine it2_up2F (show (0 : Int32) = nI 0 from rfl) 0 (by decide) (fun n q => q = 1) (fun k n q hn hI hk => ?_) (Nat.zero_le _) rfl
    have : n = 0 := by omega
    subst this; subst hI
    unfold fX12_isSafe_B21
    exact wp_f (by decide) (wp_t (by decide) (wp_some rfl))
  | some i =>
    obtain ⟨r, hr, -⟩ := hd_some hhd
    have hi := hd_lt hhd
    have hrw := (hW (p / 4) hb6).2 r (List.mem_of_getElem? hr)
    have hg : rw5 r h < 2 ^ bits := rw5_lt hbw hrw hh
    have hg32 := lt32 hbw hg
    have hr3 := hrw.2.2.2.2.2.1
    refine wp_obw (Q := fun q => (q = 0 ∨ q = 1) ∧ (q ≠ 0 ↔ ∀ o, o < 4 → (r 3).testBit o = true → ∀ q, lk (4 * (p / 4) + o) = some q → tb (aj 10 q) (rw5 r h) = true)) ?_ (fun q hq => wp_bz hq.1 (wp_some ⟨hq.1, hq.2.trans ⟨fun H q g hS => ?_, fun H o ho e1 q e2 => ?_⟩⟩))
    · refine it2_up2F (show (0 : Int32) = nI 0 from rfl) 4 (by decide) (fun n q => (q = 0 ∨ q = 1) ∧ (q ≠ 0 ↔ ∀ o, o < n → (r 3).testBit o = true → ∀ q, lk (4 * (p / 4) + o) = some q → tb (aj 10 q) (rw5 r h) = true)) (fun k n y hn hI hk => ?_) (Nat.zero_le _) ⟨Or.inr rfl, fun _ o ho => absurd ho (Nat.not_lt_zero _), fun _ => by decide⟩
      obtain ⟨h01, hI⟩ := hI
      have nx : ∀ y' : Int32, (y' = 0 ∨ y' = 1) → (y' ≠ 0 ↔ y ≠ 0 ∧ ((r 3).testBit n = true → ∀ q, lk (4 * (p / 4) + n) = some q → tb (aj 10 q) (rw5 r h) = true)) → (y' = 0 ∨ y' = 1) ∧ (y' ≠ 0 ↔ ∀ o, o < n + 1 → (r 3).testBit o = true → ∀ q, lk (4 * (p / 4) + o) = some q → tb (aj 10 q) (rw5 r h) = true) := by
        intro y' hy hy2
        refine ⟨hy, hy2.trans ⟨fun H o ho => ?_, fun H => ⟨hI.mpr (fun o ho => H o (by omega)), H n (by omega)⟩⟩⟩
        rcases Nat.lt_or_ge o n with h' | h'
        · exact hI.mp H.1 o h'
        · have : o = n := by omega
          subst this; exact H.2
      unfold fX12_isSafe_B21
      refine wp_le (a := 4) rfl rfl (by decide) (by omega) (fun hc => wp_some ?_) (fun hc => wp_f (nI_pos (by omega)) ?_)
      · have : n = 4 := by omega
        subst this; exact ⟨h01, hI⟩
      rw [pl1]
      refine mR hs rfl (mL hs rfl rfl (by decide) (i := 4 * (p / 4) + n) rfl (by omega) ?_)
      rw [hK _ (by omega)]
      refine mE hs (m_ofr (f := 3) hs hN hl6 rfl rfl rfl hb6 hr (by decide)) ?_
      have go71 : ((r 3).testBit n = true → ∀ q, lk (4 * (p / 4) + n) = some q → False) → wp (fX12_isSafe_71 k 0 x2 (nI (p / 4)) (nI i) y (nI n) (oI (lk (4 * (p / 4) + n))) (mk b fi fj ai aj ar)) (fun q => (q = 0 ∨ q = 1) ∧ (q ≠ 0 ↔ ∀ o, o < 4 → (r 3).testBit o = true → ∀ q, lk (4 * (p / 4) + o) = some q → tb (aj 10 q) (rw5 r h) = true)) := by
        intro hno
        unfold fX12_isSafe_71 fX12_isSafe_72
        refine wp_if (fun e => hk hc _ _ (nI_1 n) (nx 0 (Or.inl rfl) ⟨fun z => absurd rfl z, fun z => absurd e z.1⟩)) (fun e => wp_t rfl (hk hc _ _ (nI_1 n) (nx 1 (Or.inr rfl) ⟨fun z => ⟨e, fun h1 q h2 => (hno h1 q h2).elim⟩, fun _ => by decide⟩)))
      refine wp_bit1 rfl rfl (by omega) (by omega) (fun ht => ?_) (fun hf => go71 (fun z => by rw [hf] at z; cases z))
      cases hlk : lk (4 * (p / 4) + n) with
      | none =>
        rw [hlk] at go71
        exact wp_t (by decide) (go71 (fun _ q z => by cases z))
      | some q0 =>
        have hq0 := (hL _ _ hlk).2.1
        refine wp_f (nI_pos (by omega)) ?_
        unfold fX12_isSafe_72
        refine wp_if (fun e => hk hc _ _ (nI_1 n) (nx 0 (Or.inl rfl) ⟨fun z => absurd rfl z, fun z => absurd e z.1⟩)) (fun e => wp_f (by decide) (mR hs rfl (mLJ hs rfl rfl (by decide) (i := q0) rfl hq0 (mE hs (m_rewritten hs hN hbw hW rfl hb6 rfl hr h2 h32) ?_))))
        refine wp_tb1 rfl (by omega) (fun ht2 => hk hc _ _ (nI_1 n) (nx 1 (Or.inr rfl) ⟨fun z => ⟨e, fun _ q h2 => ?_⟩, fun _ => by decide⟩)) (fun hf2 => hk hc _ _ (nI_1 n) (nx 0 (Or.inl rfl) ⟨fun z => absurd rfl z, fun z => ?_⟩))
        · rw [hlk] at h2; cases h2; exact ht2
        · have := z.2 ht q0 hlk
          rw [hf2] at this; cases this
    · obtain ⟨rfl, o, ho, e1, e2⟩ := (Sp1_iff hhd hr).mp hS
      exact H o ho e1 q e2
    · exact H q _ ((Sp1_iff hhd hr).mpr ⟨rfl, o, ho, e1, e2⟩)
/-- what holds while the reference looks for what is safe: z tells whether something was added since aj0, R what was looked at -/
def SfI (bits : Nat) (lk : LK) (rb : RB) (aj0 aj : Nat → Nat → Int64) (z : Int32) (R : PS) : Prop :=
  (∀ p, p < 24 → ∀ h, tb (aj 10 p) h = true → h < 2 ^ bits ∧ Ac lk rb p h) ∧ ((z = 0 ∧ aj = aj0 ∧ ∀ p h, R p h → p < 24 → h < 2 ^ bits → PhE lk rb (saS aj0) p h → tb (aj0 10 p) h = true) ∨ (z = 1 ∧ cnt (aj0 10) < cnt (aj 10)))
theorem m_loops_B39 (hs : mst b) (hb : fi 12 0 0 = nI bits) (hN : NowP (ai 2) rb) (hK : LkP (ai 1) lk) (hbw : BW bits) (hL : LKW lk) (hW : RBW bits rb) (hp : p < 24) {aj0 : Nat → Nat → Int64} {z0 : Int32} (hI0 : SfI bits lk rb aj0 aj z0 (fun p' _ => p' < p)) : wp (it3 (fX12_loops_B39 0 (nI p)) FUEL z0 0 (mk b fi fj ai aj ar)) (fun q => ∃ aj', q.2 = mk b fi fj ai aj' ar ∧ SfI bits lk rb aj0 aj' q.1 (fun p' _ => p' < p + 1)) := by
  have hp2 := (pow_b hbw).2
  refine it3_up2F (show (0 : Int32) = nI 0 from rfl) (2 ^ bits) (by omega) (fun n z u => ∃ aj', u = mk b fi fj ai aj' ar ∧ SfI bits lk rb aj0 aj' z (fun p' h' => p' < p ∨ (p' = p ∧ h' < n))) (fun k n z u hn hI hk => ?_) (Nat.zero_le _) ⟨aj, rfl, hI0.1, ?_⟩
  · obtain ⟨aj', rfl, g1, g2⟩ := hI
    unfold fX12_loops_B39
    refine mE hs (m_headers hs hb hbw) (wp_le rfl rfl (by omega) (by omega) (fun hc => wp_some ⟨aj', rfl, g1, ?_⟩) (fun hc => ?_))
    · rcases g2 with ⟨e1, e2, e3⟩ | e
      · exact Or.inl ⟨e1, e2, fun p' h' hR hp' hh' => e3 p' h' (by omega) hp' hh'⟩
      · exact Or.inr e
    have stay : ∀ z' : Int32, z' = z → (tb (aj' 10 p) n = true ∨ ¬ PhE lk rb (saS aj') p n) → SfI bits lk rb aj0 aj' z' (fun p' h' => p' < p ∨ (p' = p ∧ h' < n + 1)) := by
      intro z' ez hst
      refine ⟨g1, ?_⟩
      rcases g2 with ⟨e1, e2, e3⟩ | e
      · refine Or.inl ⟨by rw [ez]; exact e1, e2, fun p' h' hR hp' hh' H => ?_⟩
        by_cases e : p' = p ∧ h' = n
        · obtain ⟨e4, e5⟩ := e
          subst e4; subst e5; subst e2
          exact hst.elim id (fun z => absurd H z)
        · refine e3 p' h' ?_ hp' hh' H
          rcases hR with h1 | ⟨h1, h2⟩
          · exact Or.inl h1
          · exact Or.inr ⟨h1, by have : h' ≠ n := fun e6 => e ⟨h1, e6⟩; omega⟩
      · exact Or.inr ⟨by rw [ez]; exact e.1, e.2⟩
    refine mR hs rfl (mLJ hs rfl rfl (by decide) rfl hp (wp_tb0 rfl (by omega) (fun hf => ?_) (fun ht => hk hc _ _ _ (nI_1 n) ⟨aj', rfl, stay z rfl (Or.inl ht)⟩)))
    refine mKw hs (m_isSafe hs hN hK hbw hL hW rfl hp rfl hc) (fun y hy => ?_)
    refine wp_if (fun e => hk hc _ _ _ (nI_1 n) ⟨aj', rfl, stay z rfl (Or.inr (fun H => hy.2.mpr H e))⟩) (fun e => ?_)
    have hPh := hy.2.mp e
    refine mR hs rfl (mLJ hs rfl rfl (by decide) rfl hp (mSJ hs rfl rfl (by decide) rfl hp (hk hc _ _ _ (nI_1 n) ⟨_, rfl, fun p' hp' h' hh' => ?_, Or.inr ⟨rfl, ?_⟩⟩)))
    · rw [up2_is] at hh'
      by_cases e2 : p' = p
      · rw [if_pos e2, tb_orT _ (by omega)] at hh'
        rcases hh' with H | H
        · rw [e2]; exact g1 p hp h' H
        · rw [e2, H]
          refine ⟨hc, Ac.fix p n (fun q g hS => ?_)⟩
          exact (g1 q (Sp1.rg hbw hL hW hp hc hS).1 g (hPh q g hS)).2
      · rw [if_neg e2] at hh'; exact g1 p' hp' h' hh'
    · have hlt : cnt (aj' 10) < cnt (up2 aj' 10 p (aj' 10 p ||| jlsl 1 (nI n)) 10) := cnt_lt (fun q hq i hi H => by
          rw [up2_is]
          by_cases e2 : q = p
          · rw [if_pos e2, tb_orT _ (by omega)]; rw [e2] at H; exact Or.inl H
          · rw [if_neg e2]; exact H) hp (i := n) (by omega) hf (by rw [up2_s, tb_orT _ (by omega)]; exact Or.inr rfl)
      rcases g2 with ⟨_, e2, _⟩ | e2
      · rw [← e2]; exact hlt
      · omega
  · rcases hI0.2 with ⟨e1, e2, e3⟩ | e
    · exact Or.inl ⟨e1, e2, fun p' h' hR hp' hh' => e3 p' h' (by omega) hp' hh'⟩
    · exact Or.inr e
theorem m_loopsS (hs : mst b) (hb : fi 12 0 0 = nI bits) (hN : NowP (ai 2) rb) (hK : LkP (ai 1) lk) (hbw : BW bits) (hL : LKW lk) (hW : RBW bits rb) (h0 : ∀ p, p < 24 → aj 10 p = 0) : wp (it2 (fX12_loops_B23 0) FUEL 1 (mk b fi fj ai aj ar)) (fun u => ∃ aj', u = mk b fi fj ai aj' ar ∧ ∀ p, p < 24 → ∀ h, tb (aj' 10 p) h = true ↔ h < 2 ^ bits ∧ Ac lk rb p h) := by
  refine it2_gh (I := fun n z u => ∃ aj', u = mk b fi fj ai aj' ar ∧ (∀ p, p < 24 → ∀ h, tb (aj' 10 p) h = true → h < 2 ^ bits ∧ Ac lk rb p h) ∧ ((z = 0 ∧ ∀ p h, p < 24 → h < 2 ^ bits → PhE lk rb (saS aj') p h → tb (aj' 10 p) h = true) ∨ (z ≠ 0 ∧ n = 769 - cnt (aj' 10)))) (fun k n z u hI hk => ?_) FUEL (769 - cnt (aj 10)) _ _ ⟨aj, rfl, fun p hp h hh => (by rw [h0 p hp, tb_0] at hh; cases hh), Or.inr ⟨by decide, rfl⟩⟩ (by unfold FUEL; omega)
  obtain ⟨aj', rfl, g1, g2⟩ := hI
  unfold fX12_loops_B23
  refine wp_if (fun hz => wp_some ⟨aj', rfl, fun p hp h => ⟨g1 p hp h, fun H => ?_⟩⟩) (fun hz => ?_)
  · have hcl : ∀ p h, p < 24 → h < 2 ^ bits → PhE lk rb (saS aj') p h → tb (aj' 10 p) h = true := by
      rcases g2 with ⟨_, g2⟩ | ⟨g2, _⟩
      · exact g2
      · exact absurd hz g2
    refine H.2 (fun p h => p < 24 → h < 2 ^ bits → tb (aj' 10 p) h = true) (fun p h H2 hp hh => hcl p h hp hh (fun q g hS => ?_)) hp H.1
    obtain ⟨r1, r2⟩ := Sp1.rg hbw hL hW hp hh hS
    exact H2 q g hS r1 r2
  · have hn : n = 769 - cnt (aj' 10) := by
      rcases g2 with ⟨g2, _⟩ | ⟨_, g2⟩
      · exact absurd g2 hz
      · exact g2
    refine wp_obw (Q := fun q => ∃ aj2, q.2 = mk b fi fj ai aj2 ar ∧ SfI bits lk rb aj' aj2 q.1 (fun p' _ => p' < 24)) ?_ (fun q hq => ?_)
    · refine it3_up2F (show (0 : Int32) = nI 0 from rfl) 24 (by decide) (fun n z u => ∃ aj2, u = mk b fi fj ai aj2 ar ∧ SfI bits lk rb aj' aj2 z (fun p' _ => p' < n)) (fun k n z u hn hI hk => ?_) (Nat.zero_le _) ⟨aj', rfl, g1, Or.inl ⟨rfl, rfl, fun p h hp => absurd hp (Nat.not_lt_zero _)⟩⟩
      obtain ⟨aj2, rfl, hI⟩ := hI
      unfold fX12_loops_B31
      refine wp_le (a := 24) rfl rfl (by decide) (by omega) (fun hc => wp_some ?_) (fun hc => ?_)
      · have : n = 24 := by omega
        subst this; exact ⟨aj2, rfl, hI⟩
      refine wp_obw (m_loops_B39 hs hb hN hK hbw hL hW hc hI) (fun q hq => ?_)
      obtain ⟨aj3, e1, hq⟩ := hq
      rw [e1]
      exact hk hc _ _ _ (nI_1 n) ⟨aj3, rfl, hq⟩
    · obtain ⟨aj2, e1, c1, c2⟩ := hq
      rw [e1]
      have b1 := cnt_le (aj' 10)
      have b2 := cnt_le (aj2 10)
      rcases c2 with ⟨e2, e3, e4⟩ | ⟨e2, e3⟩
      · rw [e2]
        refine hk 0 _ _ (by omega) ⟨aj2, rfl, c1, Or.inl ⟨rfl, fun p h hp hh H => ?_⟩⟩
        rw [e3]; rw [e3] at H
        exact e4 p h hp hp hh H
      · rw [e2]
        exact hk (769 - cnt (aj2 10)) _ _ (by omega) ⟨aj2, rfl, c1, Or.inr ⟨by decide, rfl⟩⟩
end
section PUB
variable {T : TS} {x m : UH} {x1 x2 x3 x4 x5 x6 : Int32}
theorem s_loops (hR : RR T x m) : SIM T (fX11_loops 0 x) (fX12_loops 0 m) := by
  obtain ⟨hW, ⟨hs, hd, hP⟩, hms, hM⟩ := hR
  have h24 : (tI T).1 < 24 := hW.2.2.2.2.1.1
  have hE : EntP (tB T) (tI T) (uJ x 11 11 0) := hP.2.2.2.2.2.2.1.2
  have hen : uI x 11 10 0 = nI (tI T).1 := hP.2.2.2.2.2.2.1.1
  obtain ⟨u, e1, aj1, rfl, hA⟩ := x_findE (aj := uAJ x) hs hW hP
  refine sim (T' := T) (r := uJ x 11 11 0 &&& (aj1 50 (tI T).1 ^^^ -1)) hW ?_ ?_
  · show wp (fX11_loops 0 (mk x (uI x) (uJ x) (uAI x) (uAJ x) (uAR x))) _
    unfold fX11_loops
    refine oR (hs.1 0 12 rfl) (hs.2.2 11 3 0 49 rfl) (oE (hs.1 49 2 rfl) e1 (oJ (hs.1 0 12 rfl) (oR (hs.1 0 12 rfl) (hs.2.2 11 3 0 49 rfl) (oR (hs.1 49 2 rfl) (hs.2.2 1 1 49 50 rfl) (oi (hs.1 0 12 rfl) ?_)))))
    exact oLJ (hs.1 50 21 rfl) (hs.2.1 50 24 rfl) hen h24 (by decide) (wp_some ⟨rfl, XR_mk hs hd hP⟩)
  · show wp (fX12_loops 0 (mk m (uI m) (uJ m) (uAI m) (uAJ m) (uAR m))) _
    unfold fX12_loops
    refine wp_obw (Q := fun u => ∃ aj', u = mk m (uI m) (uJ m) (uAI m) aj' (uAR m) ∧ ∀ p, p < 24 → aj' 10 p = 0) ?_ (fun u hu => ?_)
    · refine it2_up1F (show (0 : Int32) = nI 0 from rfl) 24 (by decide) (fun n u => ∃ aj', u = mk m (uI m) (uJ m) (uAI m) aj' (uAR m) ∧ ∀ p, p < n → aj' 10 p = 0) (fun k n u hn hI hk => ?_) (Nat.zero_le _) ⟨uAJ m, rfl, fun p hp => absurd hp (Nat.not_lt_zero _)⟩
      obtain ⟨aj', rfl, g⟩ := hI
      unfold fX12_loops_B2
      refine wp_le (a := 24) rfl rfl (by decide) (by omega) (fun hc => wp_some ⟨aj', rfl, fun p hp => g p (by omega)⟩) (fun hc => mR hms rfl (mSJ hms rfl rfl (by decide) rfl hc (hk hc _ _ (nI_1 n) ⟨_, rfl, fun p hp => ?_⟩)))
      rw [up2_is]
      by_cases e : p = n
      · rw [if_pos e]
      · rw [if_neg e]; exact g p (by omega)
    · obtain ⟨aj', rfl, g⟩ := hu
      refine wp_obw (m_loopsS hms hM.1 hM.2.2.2.1 hM.2.1 hW.1 hW.2.1 hW.2.2.1 g) (fun u hu => ?_)
      obtain ⟨aj2, rfl, hB⟩ := hu
      refine mKw hms (m_injected hms hM.1 hW.1 hW.2.2.2.2.1 hM.2.2.2.2.2.1.2.1 hM.2.2.2.2.2.1.2.2) (fun s hs' => ?_)
      refine mR hms rfl (mI hms (mLJ hms rfl rfl (by decide) hM.2.2.2.2.2.1.1 h24 (wp_some ⟨?_, MR_mk hms hM⟩)))
      show s &&& (aj2 10 (tI T).1 ^^^ -1) = _
      rw [EntP.eq hs' hE, set_eq (hB _ h24) (hA _ h24)]
end PUB
