theorem pl32' (p h : Nat) : (nI p * (32 : Int32)) + nI h = nI (32 * p + h) := by
  show nI p * nI 32 + nI h = _
  rw [pk_mul, nI_add, Nat.mul_comm]
theorem b_one : ∀ i, i < 32 → bt 1 i = decide (i = 0) := by decide +kernel
theorem jsr_and0 (z : Int32) {i : Nat} (hi : i < 32) : (jsr z (nI i)) &&& 1 = 0 ↔ bt z i = false := by
  have h0 : bt (jsr z (nI i)) 0 = bt z i := by
    unfold jsr
    rw [b_sshr i hi z (by decide), if_pos (by omega), Nat.add_zero]
  constructor
  · intro H
    have := congrArg (fun x => bt x 0) H
    rw [b_and, b_one 0 (by decide), b_0, h0] at this
    simpa using this
  · intro H
    refine b_ext (fun j hj => ?_)
    rw [b_and, b_one j hj, b_0]
    by_cases e : j = 0
    · subst e; rw [h0, H]; rfl
    · simp [e]
theorem bt_low (x : Int64) {i : Nat} (hi : i < 32) : bt x.toInt32 i = tb x i := by
  unfold bt tb
  rw [Int64.toBitVec_toInt32, BitVec.getLsbD_signExtend]
  simp [hi, show i < 64 by omega]
theorem off_bits {off : Int64} {box : Nat} (hb : box < 6) : ∀ i, i < 6 → ((jsr (jlur off (nI (6 * box))).toInt32 (nI i)) &&& 1 = 0 ↔ tb off (6 * box + i) = false) := by
  intro i hi
  rw [jsr_and0 _ (by omega), bt_low _ (by omega), tb_ushr (by omega)]
/-- the queue of arrivals -/
def QS (T : TS) (D : Nat → Bool) (ai : Nat → Nat → Int32) (aj : Nat → Nat → Int64) (nq : Nat) (a : Nat → Nat × Nat) : Prop := (∀ k, k < nq → ai 57 k = nI (32 * (a k).1 + (a k).2) ∧ (a k).1 < 24 ∧ (a k).2 < 2 ^ tB T ∧ PW T D (aj 58 k) (a k)) ∧ (∀ i j, i < j → j < nq → a i ≠ a j) ∧ ∀ p, p < 24 → ∀ h, h < 32 → (tb (aj 59 p) h = true ↔ ∃ k, k < nq ∧ a k = (p, h))
theorem q_le {bits nq : Nat} {a : Nat → Nat × Nat} (hb : BW bits) (h1 : ∀ k, k < nq → (a k).1 < 24 ∧ (a k).2 < 2 ^ bits) (h2 : ∀ i j, i < j → j < nq → a i ≠ a j) : nq ≤ 768 := by
  have hp2 := (pow_b hb).2
  exact fb_holes 768 nq (fun i => 32 * (a i).1 + (a i).2) (fun i hi => by have := h1 i hi; omega) (fun i j hij hj e => h2 i j hij hj (cod_inj hb (h1 i (by omega)).2 (h1 j hj).2 e))
def CFr (fi fi' : Nat → Nat → Nat → Int32) (ai ai' : Nat → Nat → Int32) (aj aj' : Nat → Nat → Int64) : Prop := (∀ c k a, ¬ (c = 0 ∧ k = 7) → fi' c k a = fi c k a) ∧ (∀ a, a ≠ 57 → ai' a = ai a) ∧ ∀ a, a ≠ 58 → a ≠ 59 → aj' a = aj a
theorem CFr.refl {fi : Nat → Nat → Nat → Int32} {ai : Nat → Nat → Int32} {aj : Nat → Nat → Int64} : CFr fi fi ai ai aj aj := ⟨fun _ _ _ _ => rfl, fun _ _ => rfl, fun _ _ _ => rfl⟩
theorem CFr.trans {f1 f2 f3 : Nat → Nat → Nat → Int32} {a1 a2 a3 : Nat → Nat → Int32} {j1 j2 j3 : Nat → Nat → Int64} (h : CFr f1 f2 a1 a2 j1 j2) (h' : CFr f2 f3 a2 a3 j2 j3) : CFr f1 f3 a1 a3 j1 j3 := ⟨fun c k a hc => (h'.1 c k a hc).trans (h.1 c k a hc), fun a ha => (h'.2.1 a ha).trans (h.2.1 a ha), fun a h8 h9 => (h'.2.2 a h8 h9).trans (h.2.2 a h8 h9)⟩
theorem CFr.pic {T : TS} {b : UH} {f1 f2 : Nat → Nat → Nat → Int32} {fj : Nat → Nat → Nat → Int64} {a1 a2 : Nat → Nat → Int32} {j1 j2 : Nat → Nat → Int64} {ar : Nat → Nat → Option Nat} (h : CFr f1 f2 a1 a2 j1 j2) (hP : XPic T b f1 fj a1 ar) : XPic T b f2 fj a2 ar := hP.sc (fun c k a hc => h.1 c k a (by omega)) xsJ.refl (fun a ha => h.2.1 a (by omega))
/-- two queues: the second goes on from the first -/
def Qx (nq nq' : Nat) (a a' : Nat → Nat × Nat) (aj aj' : Nat → Nat → Int64) : Prop := nq ≤ nq' ∧ ∀ k, k < nq → a' k = a k ∧ aj' 58 k = aj 58 k
theorem Qx.refl {nq : Nat} {a : Nat → Nat × Nat} {aj : Nat → Nat → Int64} : Qx nq nq a a aj aj := ⟨Nat.le_refl _, fun _ _ => ⟨rfl, rfl⟩⟩
theorem Qx.trans {n1 n2 n3 : Nat} {a1 a2 a3 : Nat → Nat × Nat} {j1 j2 j3 : Nat → Nat → Int64} (h : Qx n1 n2 a1 a2 j1 j2) (h' : Qx n2 n3 a2 a3 j2 j3) : Qx n1 n3 a1 a3 j1 j3 := ⟨Nat.le_trans h.1 h'.1, fun k hk => by
  have e1 := h.2 k hk
  have e2 := h'.2 k (Nat.lt_of_lt_of_le hk h.1)
  exact ⟨e2.1.trans e1.1, e2.2.trans e1.2⟩⟩
theorem Qx.mem {n1 n2 : Nat} {a1 a2 : Nat → Nat × Nat} {j1 j2 : Nat → Nat → Int64} (h : Qx n1 n2 a1 a2 j1 j2) {c : Nat × Nat} (hc : ∃ k, k < n1 ∧ a1 k = c) : ∃ k, k < n2 ∧ a2 k = c := by
  obtain ⟨k, hk, e⟩ := hc
  exact ⟨k, Nat.lt_of_lt_of_le hk h.1, (h.2 k hk).1.trans e⟩
section
variable {b : UH} {fi : Nat → Nat → Nat → Int32} {fj : Nat → Nat → Nat → Int64} {ai : Nat → Nat → Int32} {aj : Nat → Nat → Int64} {ar : Nat → Nat → Option Nat} {T : TS} {x1 x2 x3 : Int32} {D : Nat → Bool} {nq n t : Nat} {a : Nat → Nat × Nat} {w : Int64}
theorem x_enqueue {q g : Nat} (hs : xst b) (hW : WF T) (hQ : QS T D ai aj nq a) (h7 : fi 0 7 53 = nI nq) (hq : q < 24) (hg : g < 2 ^ tB T) (hPW : PW T D w (q, g)) : wp (fX0_enqueue 53 (nI q) (nI g) w (mk b fi fj ai aj ar)) (fun u => ∃ fi' ai' aj' nq' a', u = mk b fi' fj ai' aj' ar ∧ CFr fi fi' ai ai' aj aj' ∧ fi' 0 7 53 = nI nq' ∧ QS T D ai' aj' nq' a' ∧ Qx nq nq' a a' aj aj' ∧ ∃ k, k < nq' ∧ a' k = (q, g)) := by
  have hp2 := (pow_b hW.1).2
  obtain ⟨Q1, Q2, Q3⟩ := hQ
  have hle := q_le hW.1 (fun k hk => ⟨(Q1 k hk).2.1, (Q1 k hk).2.2.1⟩) Q2
  unfold fX0_enqueue
  refine oR (hs.1 53 1 rfl) (hs.2.2 0 6 53 59 rfl) (oLJ (hs.1 59 21 rfl) (hs.2.1 59 24 rfl) rfl hq (by decide) (wp_obe (x_hasHeader _ rfl (by omega)) ?_))
  cases hs0 : tb (aj 59 q) g with
  | true => exact wp_f (by decide) (wp_some ⟨fi, ai, aj, nq, a, rfl, CFr.refl, h7, ⟨Q1, Q2, Q3⟩, Qx.refl, (Q3 q hq g (by omega)).mp hs0⟩)
  | false =>
    have hnew : ∀ k, k < nq → a k ≠ (q, g) := fun k hk e => by
      have := (Q3 q hq g (by omega)).mpr ⟨k, hk, e⟩
      rw [hs0] at this; cases this
    have hn1 : ∀ k, k < nq → (fun k => if k = nq then (q, g) else a k) k = a k := fun k hk => if_neg (by omega)
    have hn2 : (fun k => if k = nq then (q, g) else a k) nq = (q, g) := if_pos rfl
    generalize hgen : (fun k => if k = nq then (q, g) else a k) = a' at hn1 hn2
    have hd' : ∀ i j, i < j → j < nq + 1 → a' i ≠ a' j := by
      intro i j hij hj
      rw [hn1 i (by omega)]
      by_cases e : j = nq
      · rw [e, hn2]; exact hnew i (by omega)
      · rw [hn1 j (by omega)]; exact Q2 i j hij (by omega)
    have hle' := q_le (a := a') (nq := nq + 1) hW.1 (fun k hk => by
      by_cases e : k = nq
      · rw [e, hn2]; exact ⟨hq, hg⟩
      · rw [hn1 k (by omega)]; exact ⟨(Q1 k (by omega)).2.1, (Q1 k (by omega)).2.2.1⟩) hd'
    refine wp_t rfl (oi (hs.1 53 1 rfl) ?_)
    rw [h7]
    refine wp_f (nI_ge (show nq < 768 by omega) (by decide)) ?_
    refine oR (hs.1 53 1 rfl) (hs.2.2 0 6 53 59 rfl) (oLJ (hs.1 59 21 rfl) (hs.2.1 59 24 rfl) rfl hq (by decide) (oSJ (hs.1 59 21 rfl) (hs.2.1 59 24 rfl) rfl hq (by decide) (oR (hs.1 53 1 rfl) (hs.2.2 0 4 53 57 rfl) (oi (hs.1 53 1 rfl) ?_))))
    rw [pl32']
    refine oS (hs.1 57 20 rfl) (hs.2.1 57 768 rfl) h7 (by omega) (by decide) (oR (hs.1 53 1 rfl) (hs.2.2 0 5 53 58 rfl) (oi (hs.1 53 1 rfl) (oSJ (hs.1 58 21 rfl) (hs.2.1 58 768 rfl) h7 (by omega) (by decide) (oi (hs.1 53 1 rfl) (oW (hs.1 53 1 rfl) (wp_some ?_))))))
    rw [h7, nI_1]
    refine ⟨_, _, _, nq + 1, a', rfl, ⟨fun c k a hc => ?_, fun a ha => up2_a ha, fun a h8 h9 => by rw [up2_a h8, up2_a h9]⟩, up3_s, ⟨fun k hk => ?_, hd', fun p hp h hh => ?_⟩, ⟨by omega, fun k hk => ⟨hn1 k hk, ?_⟩⟩, nq, by omega, hn2⟩
    · unfold up3
      exact if_neg (fun z => hc ⟨z.1, z.2.1⟩)
    · by_cases e : k = nq
      · rw [e, hn2, up2_s, up2_s]
        exact ⟨rfl, hq, hg, hPW⟩
      · rw [hn1 k (by omega), up2_i e, up2_i e, up2_a (a' := 58) (by decide)]
        exact Q1 k (by omega)
    · rw [up2_a (a' := 59) (by decide), up2_is]
      have hex : (∃ k, k < nq + 1 ∧ a' k = (p, h)) ↔ (∃ k, k < nq ∧ a k = (p, h)) ∨ (q, g) = (p, h) := by
        rw [ex_lt, hn2]
        constructor
        · rintro (⟨k, hk, e⟩ | e)
          · exact Or.inl ⟨k, hk, (hn1 k hk).symm.trans e⟩
          · exact Or.inr e
        · rintro (⟨k, hk, e⟩ | e)
          · exact Or.inl ⟨k, hk, (hn1 k hk).trans e⟩
          · exact Or.inr e
      rw [hex]
      by_cases e : p = q
      · rw [if_pos e, tb_orT _ (by omega), e, Q3 q hq h hh]
        constructor
        · rintro (H | H)
          · exact Or.inl H
          · exact Or.inr (by rw [H])
        · rintro (H | H)
          · exact Or.inl H
          · exact Or.inr (Prod.ext_iff.mp H).2.symm
      · rw [if_neg e, Q3 p hp h hh]
        exact ⟨Or.inl, fun H => H.elim id (fun z => absurd (Prod.ext_iff.mp z).1.symm e)⟩
    · rw [up2_i (by omega), up2_a (by decide)]
theorem hd_rboD {rb : RB} {D : Nat → Bool} {box port h i : Nat} (hh : hd (rbo rb D box) port h = some i) : ∃ r, (rb box)[i]? = some r ∧ (rbo rb D box)[i]? = some r := by
  obtain ⟨r0, e1, e2, _⟩ := hd_some hh
  have hg := e1
  rw [rbo_get] at hg
  cases hq : (rb box)[i]? with
  | none => rw [hq] at hg; cases hg
  | some r =>
    rw [hq, Option.map_some] at hg
    cases hd0 : D (6 * box + i) with
    | false =>
      rw [hd0] at hg
      have : r0 = r := by simpa using hg.symm
      subst this
      exact ⟨_, rfl, e1⟩
    | true =>
      rw [hd0] at hg
      have : r0 = offR r := by simpa using hg.symm
      rw [this, mt_off] at e2; cases e2
theorem x_handlingSlot {off : Int64} {p h : Nat} (hs : xst b) (hW : WF T) (hP : XPic T b fi fj ai ar) (hn : n < 768) (h57 : ai 57 n = nI (32 * p + h)) (hp : p < 24) (hh : h < 2 ^ tB T) : fX0_handlingSlot 53 (nI n) off (mk b fi fj ai aj ar) = some (oI ((hd (rbo (tR T) (tb off) (p / 4)) (p % 4) h).map (fun i => 6 * (p / 4) + i))) := by
  have hp2 := (pow_b hW.1).2
  have hb6 : p / 4 < 6 := by omega
  have h4 : p % 4 < 4 := Nat.mod_lt _ (by decide)
  have hL := hP.2.2.2.2.1 (p / 4) hb6
  have hA := LA_box (p / 4) hb6
  have hRW := (hW.2.2.1 (p / 4) hb6).2
  refine of_wp ?_
  unfold fX0_handlingSlot
  refine oR (hs.1 53 1 rfl) (hs.2.2 0 4 53 57 rfl) (oL (hs.1 57 20 rfl) (hs.2.1 57 768 rfl) rfl hn (by decide) (wp_lt (wp_lt (wp_lt ?_))))
  rw [h57, show (32 : Int32) = nI 32 from rfl, dv (by omega) (by decide) (by decide), show (32 * p + h) / 32 = p by omega, dv4 (by omega), show nI (p / 4) * (6 : Int32) = nI (6 * (p / 4)) by rw [show (6 : Int32) = nI 6 from rfl, pk_mul, Nat.mul_comm], rm4 (by omega)]
  refine oR (hs.1 53 1 rfl) (hs.2.2 0 0 53 1 rfl) (oR (hs.1 1 5 rfl) (hs.2.2 4 3 1 3 rfl) (oLR (hs.1 3 26 rfl) (hs.2.1 3 6 rfl) rfl hb6 (by decide) (hP.1.1 _ hb6) (oR (hs.1 53 1 rfl) (hs.2.2 0 4 53 57 rfl) (oL (hs.1 57 20 rfl) (hs.2.1 57 768 rfl) rfl hn (by decide) ?_))))
  rw [h57, rm (by omega) (by decide) (by decide), show (32 * p + h) % 32 = h by omega]
  refine oE (hs.1 _ _ hA.1) (x_handler hs hA hL hRW (fun i => tb off (6 * (p / 4) + i)) rfl h4 rfl (by omega) (off_bits hb6)) ?_
  show wp (if oI (hd (rbo (tR T) (tb off) (p / 4)) (p % 4) h) = -1 then _ else _) _
  cases hhd : hd (rbo (tR T) (tb off) (p / 4)) (p % 4) h with
  | none => exact wp_t rfl (wp_some rfl)
  | some i =>
    have hi := hd_lt hhd
    rw [rbo_len] at hi
    have := hL.2.1
    refine wp_f (fun z => by have := (oI_m1 (o := some i) (fun q hq => by cases hq; omega)).mp z; cases this) (wp_some ?_)
    show nI (6 * (p / 4)) + oI (hd (rbo (tR T) (tb off) (p / 4)) (p % 4) h) = nI (6 * (p / 4) + i)
    rw [hhd]
    exact nI_add _ _
theorem x_reaches {i : Nat} (hs : xst b) (hW : WF T) (hP : XPic T b fi fj ai ar) (hQ : QS T D ai aj nq a) (h7 : fi 0 7 53 = nI nq) (hn : n < nq) (hh : hd (rbo (tR T) D ((a n).1 / 4)) ((a n).1 % 4) (a n).2 = some i) (h10 : fi 0 10 53 = nI t) (ht : t < 24) : wp (fX0_reachesTarget 53 (nI n) (nI (6 * ((a n).1 / 4) + i)) (mk b fi fj ai aj ar)) (fun q => ∃ fi' ai' aj' nq' a', q.2 = mk b fi' fj ai' aj' ar ∧ CFr fi fi' ai ai' aj aj' ∧ fi' 0 7 53 = nI nq' ∧ QS T D ai' aj' nq' a' ∧ Qx nq nq' a a' aj aj' ∧ ((q.1 = 1 ∧ ∃ g, Dlv (tL T) (rbo (tR T) D) (a n).1 (a n).2 t g) ∨ (q.1 = 0 ∧ (∀ g, ¬ Dlv (tL T) (rbo (tR T) D) (a n).1 (a n).2 t g) ∧ ∀ q g, Sp1 (tL T) (rbo (tR T) D) (a n).1 (a n).2 q g → ∃ k, k < nq' ∧ a' k = (q, g)))) := by
  have hp2 := (pow_b hW.1).2
  have hle := q_le hW.1 (fun k hk => ⟨(hQ.1 k hk).2.1, (hQ.1 k hk).2.2.1⟩) hQ.2.1
  obtain ⟨e57, hr1, hr2, hPW⟩ := hQ.1 n hn
  obtain ⟨hi6, _⟩ := hPW.1.step hW hr1 hh
  obtain ⟨r, hr, hro⟩ := hd_rboD hh
  generalize han : a n = c at *
  have hb6 : c.1 / 4 < 6 := by omega
  have hL := hP.2.2.2.2.1 (c.1 / 4) hb6
  have hA := LA_box (c.1 / 4) hb6
  have hrw := (hW.2.2.1 (c.1 / 4) hb6).2 r (List.mem_of_getElem? hr)
  have hr3 := hrw.2.2.2.2.2.1
  have hg : rw5 r c.2 < 2 ^ tB T := rw5_lt hW.1 hrw hr2
  obtain ⟨ra, e1, e2⟩ := hL.2.2.2 i r hr
  have hSp := fun q g => Sp1_iff (lk := tL T) (q := q) (g := g) hh hro
  have hDl := fun q g => Dlv_iff (lk := tL T) (q := q) (g := g) hh hro
  unfold fX0_reachesTarget
  refine wp_lt ?_
  rw [show (6 : Int32) = nI 6 from rfl, dv (by omega) (by decide) (by decide), rm (by omega) (by decide) (by decide), show (6 * (c.1 / 4) + i) / 6 = c.1 / 4 by omega, show (6 * (c.1 / 4) + i) % 6 = i by omega]
  refine oR (hs.1 53 1 rfl) (hs.2.2 0 0 53 1 rfl) (oR (hs.1 1 5 rfl) (hs.2.2 4 3 1 3 rfl) (oLR (hs.1 3 26 rfl) (hs.2.1 3 6 rfl) rfl hb6 (by decide) (hP.1.1 _ hb6) (oR (hs.1 _ _ hA.1) (hs.2.2 _ _ _ _ hA.2.2.2) (oLR (hs.1 _ _ hA.2.1) (hs.2.1 _ _ hA.2.2.1) rfl hi6 (by decide) e1 (oR (hs.1 53 1 rfl) (hs.2.2 0 4 53 57 rfl) (oL (hs.1 57 20 rfl) (hs.2.1 57 768 rfl) rfl (by omega) (by decide) ?_))))))
  rw [e57, show (32 : Int32) = nI 32 from rfl, rm (by omega) (by decide) (by decide), show (32 * c.1 + c.2) % 32 = c.2 by omega]
  refine oE e2.1 (x_rewritten e2 hW.1 hrw rfl (by omega)) (oR (hs.1 53 1 rfl) (hs.2.2 0 5 53 58 rfl) (oLJ (hs.1 58 21 rfl) (hs.2.1 58 768 rfl) rfl (by omega) (by decide) (wp_lt ?_)))
  refine wp_oew (Q := fun q => match q with
    | .inl u => ∃ fi' ai' aj' nq' a', u = mk b fi' fj ai' aj' ar ∧ CFr fi fi' ai ai' aj aj' ∧ fi' 0 7 53 = nI nq' ∧ QS T D ai' aj' nq' a' ∧ Qx nq nq' a a' aj aj' ∧ (∀ g, ¬ Dlv (tL T) (rbo (tR T) D) c.1 c.2 t g) ∧ ∀ q g, Sp1 (tL T) (rbo (tR T) D) c.1 c.2 q g → ∃ k, k < nq' ∧ a' k = (q, g)
    | .inr q => ∃ fi' ai' aj' nq' a', q.2 = mk b fi' fj ai' aj' ar ∧ CFr fi fi' ai ai' aj aj' ∧ fi' 0 7 53 = nI nq' ∧ QS T D ai' aj' nq' a' ∧ Qx nq nq' a a' aj aj' ∧ (q.1 = 1 ∧ ∃ g, Dlv (tL T) (rbo (tR T) D) c.1 c.2 t g)) ?_ (fun u hu => ?_) (fun q hq => ?_)
  · refine it2_up1F (show (0 : Int32) = nI 0 from rfl) 4 (by decide) (fun m u => ∃ fi' ai' aj' nq' a', u = mk b fi' fj ai' aj' ar ∧ CFr fi fi' ai ai' aj aj' ∧ fi' 0 7 53 = nI nq' ∧ QS T D ai' aj' nq' a' ∧ Qx nq nq' a a' aj aj' ∧ (∀ o, o < m → (r 3).testBit o = true → tL T (4 * (c.1 / 4) + o) = none → 4 * (c.1 / 4) + o ≠ t) ∧ ∀ o, o < m → (r 3).testBit o = true → ∀ q, tL T (4 * (c.1 / 4) + o) = some q → ∃ k, k < nq' ∧ a' k = (q, rw5 r c.2)) (fun k m u hm hI hk => ?_) (Nat.zero_le _) ⟨fi, ai, aj, nq, a, rfl, CFr.refl, h7, hQ, Qx.refl, fun o ho => absurd ho (Nat.not_lt_zero _), fun o ho => absurd ho (Nat.not_lt_zero _)⟩
    obtain ⟨fi', ai', aj', nq', a', rfl, F, h7', hQ', hX, g1, g2⟩ := hI
    have hP' := F.pic hP
    have e2' : RP b fi' fj ra r := e2.sc (fun c k a hc => F.1 c k a (by omega)) xsJ.refl
    have skip : ((r 3).testBit m = true → (∃ q, tL T (4 * (c.1 / 4) + m) = some q) ∨ 4 * (c.1 / 4) + m = t → False) → ∃ fi2 ai2 aj2 nq2 a2, mk b fi' fj ai' aj' ar = mk b fi2 fj ai2 aj2 ar ∧ CFr fi fi2 ai ai2 aj aj2 ∧ fi2 0 7 53 = nI nq2 ∧ QS T D ai2 aj2 nq2 a2 ∧ Qx nq nq2 a a2 aj aj2 ∧ (∀ o, o < m + 1 → (r 3).testBit o = true → tL T (4 * (c.1 / 4) + o) = none → 4 * (c.1 / 4) + o ≠ t) ∧ ∀ o, o < m + 1 → (r 3).testBit o = true → ∀ q, tL T (4 * (c.1 / 4) + o) = some q → ∃ k, k < nq2 ∧ a2 k = (q, rw5 r c.2) := by
      intro hno
      refine ⟨fi', ai', aj', nq', a', rfl, F, h7', hQ', hX, fun o ho e3 e4 e5 => ?_, fun o ho e3 q e4 => ?_⟩
      · by_cases e : o = m
        · subst e; exact hno e3 (Or.inr e5)
        · exact g1 o (by omega) e3 e4 e5
      · by_cases e : o = m
        · subst e; exact (hno e3 (Or.inl ⟨q, e4⟩)).elim
        · exact g2 o (by omega) e3 q e4
    unfold fX0_reachesTarget_B55
    refine wp_le (a := 4) rfl rfl (by decide) (by omega) (fun hc => wp_some ?_) (fun hc => ?_)
    · have : m = 4 := by omega
      subst this
      refine ⟨fi', ai', aj', nq', a', rfl, F, h7', hQ', hX, fun g H => ?_, fun q g H => ?_⟩
      · obtain ⟨_, o, ho, e3, e4, e5⟩ := (hDl t g).mp H
        exact g1 o ho e3 (by rw [← e4]; exact e5) e4.symm
      · obtain ⟨rfl, o, ho, e3, e4⟩ := (hSp q g).mp H
        exact g2 o ho e3 q e4
    have hpl : 4 * (c.1 / 4) + m < 24 := by omega
    refine oi e2'.1 ?_
    rw [e2'.2.1 3 (by decide)]
    refine wp_obe (x_hasPort _ rfl rfl (by omega) (by omega)) ?_
    cases hte : (r 3).testBit m with
    | false => exact wp_t rfl (hk hc _ _ (nI_1 m) (skip (fun z => by rw [hte] at z; cases z)))
    | true =>
      refine wp_f (by decide) (oR (hs.1 53 1 rfl) (hs.2.2 0 0 53 1 rfl) (oR (hs.1 1 5 rfl) (hs.2.2 4 2 1 2 rfl) (wp_obe (x_placeOf _ rfl rfl) (oL (hs.1 2 20 rfl) (hs.2.1 2 24 rfl) rfl hpl (by decide) ?_))))
      rw [hP'.2.2.1 _ hpl]
      cases hlk : tL T (4 * (c.1 / 4) + m) with
      | none =>
        refine wp_t rfl (wp_obe (x_placeOf _ rfl rfl) (oi (hs.1 53 1 rfl) ?_))
        rw [F.1 0 10 53 (by decide), h10]
        refine wp_eqq rfl rfl (by omega) (by omega) (fun e => ?_) (fun e => hk hc _ _ (nI_1 m) (skip (fun _ z => ?_)))
        · exact wp_some ⟨fi', ai', aj', nq', a', rfl, F, h7', hQ', hX, rfl, rw5 r c.2, (hDl t _).mpr ⟨rfl, m, hc, hte, e.symm, by rw [← e]; exact hlk⟩⟩
        · rcases z with ⟨q, z⟩ | z
          · rw [hlk] at z; cases z
          · exact e z
      | some q0 =>
        have hq0 := (hW.2.1 _ _ hlk).2.1
        refine wp_f (fun e => by have := (oI_m1 (o := some q0) (fun q hq => by cases hq; omega)).mp e; cases this) ?_
        have hS : Sp1 (tL T) (rbo (tR T) D) c.1 c.2 q0 (rw5 r c.2) := (hSp _ _).mpr ⟨rfl, m, hc, hte, hlk⟩
        refine oKw (hs.1 53 1 rfl) (x_enqueue hs hW hQ' h7' hq0 hg (hPW.step hW hr1 hh hS)) (fun u hu => ?_)
        obtain ⟨fi2, ai2, aj2, nq2, a2, rfl, F2, h72, hQ2, hX2, hm2⟩ := hu
        refine hk hc _ _ (nI_1 m) ⟨fi2, ai2, aj2, nq2, a2, rfl, F.trans F2, h72, hQ2, hX.trans hX2, fun o ho e3 e4 e5 => ?_, fun o ho e3 q e4 => ?_⟩
        · by_cases e : o = m
          · subst e; rw [hlk] at e4; cases e4
          · exact g1 o (by omega) e3 e4 e5
        · by_cases e : o = m
          · subst e; rw [hlk] at e4; cases e4; exact hm2
          · exact hX2.mem (g2 o (by omega) e3 q e4)
  · obtain ⟨fi', ai', aj', nq', a', rfl, F, h7', hQ', hX, g1, g2⟩ := hu
    exact wp_some ⟨fi', ai', aj', nq', a', rfl, F, h7', hQ', hX, Or.inr ⟨rfl, g1, g2⟩⟩
  · obtain ⟨fi', ai', aj', nq', a', e, F, h7', hQ', hX, g1⟩ := hq
    exact wp_some ⟨fi', ai', aj', nq', a', e, F, h7', hQ', hX, Or.inl g1⟩
/-- what the search was told: place, headers and target -/
def CuP (T : TS) (t : Nat) (fi : Nat → Nat → Nat → Int32) (fj : Nat → Nat → Nat → Int64) : Prop := fi 0 8 53 = nI (tI T).1 ∧ EntP (tB T) (tI T) (fj 0 9 53) ∧ fi 0 10 53 = nI t
theorem x_openWay (hs : xst b) (hW : WF T) (hP : XPic T b fi fj ai ar) (hC : CuP T t fi fj) (ht : t < 24) (off : Int64) : wp (fX0_openWay 53 off (mk b fi fj ai aj ar)) (fun q => ((q.1 = 0 ∧ ¬ Opn T (tb off) t) ∨ (q.1 ≠ 0 ∧ WY T t (tb off) q.1)) ∧ ∃ fi' ai' aj', q.2 = mk b fi' fj ai' aj' ar ∧ CFr fi fi' ai ai' aj aj') := by
  have hp2 := (pow_b hW.1).2
  have h24 : (tI T).1 < 24 := hW.2.2.2.2.1.1
  obtain ⟨h8, h9, h10⟩ := hC
  unfold fX0_openWay
  refine oR (hs.1 53 1 rfl) (hs.2.2 0 6 53 59 rfl) (wp_obe (j_fillJ (hs.1 59 21 rfl) (hs.2.1 59 24 rfl) (by decide) _) (oW (hs.1 53 1 rfl) ?_))
  refine wp_obw (Q := fun u => ∃ fi' ai' aj' nq a, u = mk b fi' fj ai' aj' ar ∧ CFr fi fi' ai ai' aj aj' ∧ fi' 0 7 53 = nI nq ∧ QS T (tb off) ai' aj' nq a ∧ ∀ q g, ST T q g → ∃ k, k < nq ∧ a k = (q, g)) ?_ (fun u hu => ?_)
  · refine it2_up1F (show (0 : Int32) = nI 0 from rfl) 32 (by decide) (fun m u => ∃ fi' ai' aj' nq a, u = mk b fi' fj ai' aj' ar ∧ CFr fi fi' ai ai' aj aj' ∧ fi' 0 7 53 = nI nq ∧ QS T (tb off) ai' aj' nq a ∧ ∀ q g, g < m → ST T q g → ∃ k, k < nq ∧ a k = (q, g)) (fun k m u hm hI hk => ?_) (Nat.zero_le _) ⟨_, ai, _, 0, fun _ => (0, 0), rfl, ⟨fun c k a hc => if_neg (fun z => hc ⟨z.1, z.2.1⟩), fun _ _ => rfl, fun a _ h => filA_a h⟩, up3_s, ⟨fun k hk => absurd hk (Nat.not_lt_zero _), fun i j _ hj => absurd hj (Nat.not_lt_zero _), fun p hp h _ => ?_⟩, fun q g hg => absurd hg (Nat.not_lt_zero _)⟩
    · obtain ⟨fi', ai', aj', nq, a, rfl, F, h7', hQ', g1⟩ := hI
      unfold fX0_openWay_B15
      refine wp_le (a := 32) rfl rfl (by decide) (by omega) (fun hc => wp_some ⟨fi', ai', aj', nq, a, rfl, F, h7', hQ', fun q g hS => g1 q g (by have := hS.2.1; omega) hS⟩) (fun hc => ?_)
      refine oJ (hs.1 53 1 rfl) (wp_obe (x_hasHeader _ rfl (by omega)) ?_)
      cases htb : tb (fj 0 9 53) m with
      | false =>
        refine wp_t rfl (hk hc _ _ (nI_1 m) ⟨fi', ai', aj', nq, a, rfl, F, h7', hQ', fun q g hg hS => ?_⟩)
        by_cases e : g = m
        · have := (EntP.iff hW.1 h9 g).mpr hS.2
          rw [e, htb] at this; cases this
        · exact g1 q g (by omega) hS
      | true =>
        have hin := (EntP.iff hW.1 h9 m).mp htb
        refine wp_f (by decide) (oi (hs.1 53 1 rfl) ?_)
        rw [F.1 0 8 53 (by decide), h8]
        refine oKw (hs.1 53 1 rfl) (x_enqueue hs hW hQ' h7' h24 hin.1 (w := 0) ⟨fun s hs => (by rw [tb_0] at hs; cases hs), fun D' _ _ => Rc.base ⟨rfl, hin⟩⟩) (fun u hu => ?_)
        obtain ⟨fi2, ai2, aj2, nq2, a2, rfl, F2, h72, hQ2, hX2, hm2⟩ := hu
        refine hk hc _ _ (nI_1 m) ⟨fi2, ai2, aj2, nq2, a2, rfl, F.trans F2, h72, hQ2, fun q g hg hS => ?_⟩
        by_cases e : g = m
        · rw [e, hS.1]; exact hm2
        · exact hX2.mem (g1 q g (by omega) hS)
    · rw [filA_i hp, tb_0]
      exact ⟨fun z => (by cases z), fun ⟨k, hk, _⟩ => absurd hk (Nat.not_lt_zero _)⟩
  · obtain ⟨fi1, ai1, aj1, nq1, a1, rfl, F1, h71, hQ1, hS1⟩ := hu
    refine wp_oew (Q := fun q => match q with
      | .inl u => ¬ Opn T (tb off) t ∧ ∃ fi' ai' aj', u = mk b fi' fj ai' aj' ar ∧ CFr fi fi' ai ai' aj aj'
      | .inr q => (q.1 ≠ 0 ∧ WY T t (tb off) q.1) ∧ ∃ fi' ai' aj', q.2 = mk b fi' fj ai' aj' ar ∧ CFr fi fi' ai ai' aj aj') ?_ (fun u hu => ?_) (fun q hq => wp_some ⟨Or.inr hq.1, hq.2⟩)
    · refine it2_up1F (show (0 : Int32) = nI 0 from rfl) 768 (by decide) (fun m u => ∃ fi' ai' aj' nq a, u = mk b fi' fj ai' aj' ar ∧ CFr fi fi' ai ai' aj aj' ∧ fi' 0 7 53 = nI nq ∧ QS T (tb off) ai' aj' nq a ∧ (∀ q g, ST T q g → ∃ k, k < nq ∧ a k = (q, g)) ∧ m ≤ nq ∧ ∀ k, k < m → (∀ g, ¬ Dlv (tL T) (rbo (tR T) (tb off)) (a k).1 (a k).2 t g) ∧ ∀ q g, Sp1 (tL T) (rbo (tR T) (tb off)) (a k).1 (a k).2 q g → ∃ k', k' < nq ∧ a k' = (q, g)) (fun k m u hm hI hk => ?_) (Nat.zero_le _) ⟨fi1, ai1, aj1, nq1, a1, rfl, F1, h71, hQ1, hS1, Nat.zero_le _, fun k hk => absurd hk (Nat.not_lt_zero _)⟩
      obtain ⟨fi', ai', aj', nq, a, rfl, F, h7', hQ', g1, g2, g3⟩ := hI
      have hle := q_le hW.1 (fun k hk => ⟨(hQ'.1 k hk).2.1, (hQ'.1 k hk).2.2.1⟩) hQ'.2.1
      have hP' := F.pic hP
      unfold fX0_openWay_B50
      refine oi (hs.1 53 1 rfl) ?_
      rw [h7']
      refine wp_le rfl rfl (by omega) (by omega) (fun hc => wp_some ⟨?_, fi', ai', aj', rfl, F⟩) (fun hc => ?_)
      · rintro ⟨p, h, g, H1, H2⟩
        have hin : ∃ k, k < nq ∧ a k = (p, h) := Rc.least (A := fun q g => ∃ k, k < nq ∧ a k = (q, g)) g1 (fun p h q g H hS => by
          obtain ⟨k, hk, e⟩ := H
          refine (g3 k (by omega)).2 q g ?_
          rw [e]; exact hS) H1
        obtain ⟨k, hk, e⟩ := hin
        refine (g3 k (by omega)).1 g ?_
        rw [e]; exact H2
      · obtain ⟨e57, hr1, hr2, hPW⟩ := hQ'.1 m hc
        refine wp_f (nI_ge (show m < 768 by omega) (by decide)) (oE (hs.1 53 1 rfl) (x_handlingSlot hs hW hP' (by omega) e57 hr1 hr2) ?_)
        cases hhd : hd (rbo (tR T) (tb off) ((a m).1 / 4)) ((a m).1 % 4) (a m).2 with
        | none =>
          refine wp_t rfl (hk (by omega) _ _ (nI_1 m) ⟨fi', ai', aj', nq, a, rfl, F, h7', hQ', g1, hc, fun k hk' => ?_⟩)
          by_cases e : k = m
          · rw [e]
            exact ⟨fun g => Dlv_no hhd, fun q g H => absurd H (Sp1_no hhd)⟩
          · exact g3 k (by omega)
        | some i =>
          obtain ⟨hi6, _⟩ := hPW.1.step hW hr1 hhd
          refine wp_f (fun z => by have := (oI_m1 (o := some (6 * ((a m).1 / 4) + i)) (fun q hq => by cases hq; omega)).mp z; cases this) ?_
          refine oK2 (hs.1 53 1 rfl) (x_reaches hs hW hP' hQ' h7' hc hhd ((F.1 0 10 53 (by decide)).trans h10) ht) (fun z u hq => ?_)
          obtain ⟨fi2, ai2, aj2, nq2, a2, e2, F2, h72, hQ2, hX2, hz⟩ := hq
          dsimp only at e2 hz
          subst e2
          rcases hz with ⟨rfl, g, hD⟩ | ⟨rfl, hD, hS⟩
          · have hle2 := q_le hW.1 (fun k hk => ⟨(hQ2.1 k hk).2.1, (hQ2.1 k hk).2.2.1⟩) hQ2.2.1
            refine wp_f (by decide) (oR (hs.1 53 1 rfl) (hs.2.2 0 5 53 58 rfl) (oLJ (hs.1 58 21 rfl) (hs.2.1 58 768 rfl) rfl (by omega) (by decide) (wp_some ⟨?_, fi2, ai2, aj2, rfl, F.trans F2⟩)))
            have hf := hPW.fin hW hr1 hhd hD
            rw [(hX2.2 m hc).2]
            exact ⟨hf.2, hf.1⟩
          · refine wp_t rfl (hk (by omega) _ _ (nI_1 m) ⟨fi2, ai2, aj2, nq2, a2, rfl, F.trans F2, h72, hQ2, fun q g H => hX2.mem (g1 q g H), Nat.le_trans hc hX2.1, fun k hk' => ?_⟩)
            rw [(hX2.2 k (by omega)).1]
            by_cases e : k = m
            · rw [e]; exact ⟨hD, hS⟩
            · exact ⟨(g3 k (by omega)).1, fun q g H => hX2.mem ((g3 k (by omega)).2 q g H)⟩
    · obtain ⟨h1, fi', ai', aj', rfl, F⟩ := hu
      exact wp_some ⟨Or.inl ⟨rfl, h1⟩, fi', ai', aj', rfl, F⟩
end
