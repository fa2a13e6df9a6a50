/-! reading a rule: tx the characters, positions from 0 -/
def dgN (tx : Nat → Option Int32) (p : Nat) : Nat → Nat × Nat
  | 0 => (0, p)
  | n + 1 => if tx (dgN tx p n).2 = some (nI (48 + n)) then ((dgN tx p n).1 ||| 2 ^ n, (dgN tx p n).2 + 1) else dgN tx p n
def prt (tx : Nat → Option Int32) (p : Nat) : Nat × Nat := if tx p = some 42 then (15, p + 1) else dgN tx p 4
def ptN (tx : Nat → Option Int32) : Nat → Nat → Nat → Nat → Bool × Nat × Nat × Nat
  | 0, p, c, v => (true, c, v, p)
  | n + 1, p, c, v => if tx p = some 49 then ptN tx n (p + 1) (c ||| 2 ^ n) (v ||| 2 ^ n) else if tx p = some 48 then ptN tx n (p + 1) (c ||| 2 ^ n) v else if tx p = some 42 then ptN tx n (p + 1) c v else (false, c, v, p)
abbrev PR : Type := Nat ⊕ (Nat × Nat × Nat × Nat × Nat × Nat)
def prs4 (len ps c v o : Nat) (R : Bool × Nat × Nat × Nat) : PR := if R.1 = true then (if R.2.2.2 = len then .inr (ps, c, v, o, R.2.1, R.2.2.1) else .inl R.2.2.2) else .inl R.2.2.2
def prs3 (b : Nat) (tx : Nat → Option Int32) (len ps c v : Nat) (D : Nat × Nat) : PR := if D.1 = 0 then .inl D.2 else if tx D.2 = some 61 then prs4 len ps c v D.1 (ptN tx b (D.2 + 1) 0 0) else if D.2 = len then .inr (ps, c, v, D.1, 0, 0) else .inl D.2
def prs2 (b : Nat) (tx : Nat → Option Int32) (len ps : Nat) (R : Bool × Nat × Nat × Nat) : PR := if R.1 = true then (if tx R.2.2.2 = some 33 then (if R.2.2.2 + 1 = len then .inr (ps, R.2.1, R.2.2.1, 0, 0, 0) else .inl (R.2.2.2 + 1)) else if tx R.2.2.2 = some 62 then prs3 b tx len ps R.2.1 R.2.2.1 (dgN tx (R.2.2.2 + 1) 4) else .inl R.2.2.2) else .inl R.2.2.2
def prs (b : Nat) (tx : Nat → Option Int32) (len : Nat) : PR := if (prt tx 0).1 = 0 then .inl (prt tx 0).2 else if tx (prt tx 0).2 = some 58 then prs2 b tx len (prt tx 0).1 (ptN tx b ((prt tx 0).2 + 1) 0 0) else .inl (prt tx 0).2
theorem dgN_s (tx : Nat → Option Int32) (p n : Nat) : dgN tx p (n + 1) = if tx (dgN tx p n).2 = some (nI (48 + n)) then ((dgN tx p n).1 ||| 2 ^ n, (dgN tx p n).2 + 1) else dgN tx p n := rfl
theorem dgN_lt (tx : Nat → Option Int32) (p : Nat) : ∀ n, (dgN tx p n).1 < 2 ^ n
  | 0 => by show 0 < 2 ^ 0; decide
  | n + 1 => by
    have h := dgN_lt tx p n
    have h2 : 2 ^ n < 2 ^ (n + 1) := Nat.pow_lt_pow_right (by decide) (by omega)
    rw [dgN_s]
    split
    · exact Nat.or_lt_two_pow (Nat.lt_trans h h2) h2
    · exact Nat.lt_trans h h2
theorem dgN_le {tx : Nat → Option Int32} {p len : Nat} (ht : ∀ i c, tx i = some c → i < len) (hp : p ≤ len) : ∀ n, (dgN tx p n).2 ≤ len
  | 0 => hp
  | n + 1 => by
    have h := dgN_le ht hp n
    rw [dgN_s]
    split
    · rename_i he; exact ht _ _ he
    · exact h
theorem prt_lt (tx : Nat → Option Int32) (p : Nat) : (prt tx p).1 < 16 := by
  unfold prt
  split
  · show (15 : Nat) < 16; decide
  · exact dgN_lt tx p 4
theorem prt_le {tx : Nat → Option Int32} {p len : Nat} (ht : ∀ i c, tx i = some c → i < len) (hp : p ≤ len) : (prt tx p).2 ≤ len := by
  unfold prt
  split
  · rename_i he; exact ht _ _ he
  · exact dgN_le ht hp 4
theorem or_sub {v c x : Nat} (h : v &&& c = v) : (v ||| x) &&& (c ||| x) = v ||| x ∧ v &&& (c ||| x) = v := by
  constructor
  · apply Nat.eq_of_testBit_eq
    intro i
    have := congrArg (fun z => z.testBit i) h
    simp only [Nat.testBit_and, Nat.testBit_or] at this ⊢
    cases h1 : v.testBit i <;> cases h2 : c.testBit i <;> cases h3 : x.testBit i <;> simp_all
  · apply Nat.eq_of_testBit_eq
    intro i
    have := congrArg (fun z => z.testBit i) h
    simp only [Nat.testBit_and, Nat.testBit_or] at this ⊢
    cases h1 : v.testBit i <;> cases h2 : c.testBit i <;> cases h3 : x.testBit i <;> simp_all
theorem ptN_rg {tx : Nat → Option Int32} {b len : Nat} (ht : ∀ i c, tx i = some c → i < len) : ∀ (n p c v : Nat), n ≤ b → p ≤ len → c < 2 ^ b → v < 2 ^ b → v &&& c = v → (ptN tx n p c v).2.1 < 2 ^ b ∧ (ptN tx n p c v).2.2.1 < 2 ^ b ∧ (ptN tx n p c v).2.2.1 &&& (ptN tx n p c v).2.1 = (ptN tx n p c v).2.2.1 ∧ (ptN tx n p c v).2.2.2 ≤ len
  | 0, p, c, v, _, hp, hc, hv, h => ⟨hc, hv, h, hp⟩
  | n + 1, p, c, v, hn, hp, hc, hv, h => by
    have h2 : 2 ^ n < 2 ^ b := Nat.pow_lt_pow_right (by decide) (by omega)
    unfold ptN
    split
    · rename_i he
      exact ptN_rg ht n (p + 1) _ _ (by omega) (ht _ _ he) (Nat.or_lt_two_pow hc h2) (Nat.or_lt_two_pow hv h2) (or_sub h).1
    · split
      · rename_i he
        exact ptN_rg ht n (p + 1) _ _ (by omega) (ht _ _ he) (Nat.or_lt_two_pow hc h2) hv (or_sub h).2
      · split
        · rename_i he
          exact ptN_rg ht n (p + 1) _ _ (by omega) (ht _ _ he) hc hv h
        · exact ⟨hc, hv, h, hp⟩
theorem prs_rg {tx : Nat → Option Int32} {b len ps c v o ch t : Nat} (ht : ∀ i c, tx i = some c → i < len) (h : prs b tx len = .inr (ps, c, v, o, ch, t)) : 1 ≤ ps ∧ ps ≤ 15 ∧ c < 2 ^ b ∧ v < 2 ^ b ∧ v &&& c = v ∧ o ≤ 15 ∧ ch < 2 ^ b ∧ t < 2 ^ b ∧ t &&& ch = t ∧ (o = 0 → ch = 0) := by
  have hb := Nat.two_pow_pos b
  have hp0 := prt_lt tx 0
  have hl0 := prt_le ht (Nat.zero_le len)
  unfold prs at h
  split at h
  · cases h
  rename_i hps
  split at h
  · rename_i h58
    have hl1 := ht _ _ h58
    obtain ⟨r1, r2, r3, r4⟩ := ptN_rg (b := b) ht b ((prt tx 0).2 + 1) 0 0 (Nat.le_refl _) hl1 hb hb (by decide)
    generalize ptN tx b ((prt tx 0).2 + 1) 0 0 = R at *
    unfold prs2 at h
    split at h
    · split at h
      · split at h
        · cases h
          exact ⟨by omega, by omega, r1, r2, r3, by decide, hb, hb, by decide, fun _ => rfl⟩
        · cases h
      · split at h
        · rename_i h62
          have hl2 := ht _ _ h62
          have hd := dgN_lt tx (R.2.2.2 + 1) 4
          have hdl := dgN_le ht hl2 4
          generalize dgN tx (R.2.2.2 + 1) 4 = Dd at *
          unfold prs3 at h
          split at h
          · cases h
          rename_i ho
          split at h
          · rename_i h61
            have hl3 := ht _ _ h61
            obtain ⟨s1, s2, s3, s4⟩ := ptN_rg (b := b) ht b (Dd.2 + 1) 0 0 (Nat.le_refl _) hl3 hb hb (by decide)
            unfold prs4 at h
            split at h
            · split at h
              · cases h
                exact ⟨by omega, by omega, r1, r2, r3, by omega, s1, s2, s3, fun z => absurd z ho⟩
              · cases h
            · cases h
          · split at h
            · cases h
              exact ⟨by omega, by omega, r1, r2, r3, by omega, hb, hb, by decide, fun _ => rfl⟩
            · cases h
        · cases h
    · cases h
  · cases h
def txt (T : TS) (p : Nat) : Option Int32 := (tT T)[p]?
theorem txt_lt {T : TS} (i : Nat) (c : Int32) (h : txt T i = some c) : i < (tT T).length := (List.getElem?_eq_some_iff.mp h).1
/-- the class's reader at a position, with what it has read -/
def XS (T : TS) (b : UH) (fi : Nat → Nat → Nat → Int32) (fj : Nat → Nat → Nat → Int64) (ai : Nat → Nat → Int32) (aj : Nat → Nat → Int64) (ar : Nat → Nat → Option Nat) (p : Nat) (f3 f4 f5 f6 f7 f8 : Int32) (u : UH) : Prop := ∃ fi', u = mk b fi' fj ai aj ar ∧ (∀ c k a, (c ≠ 9 ∨ k = 1) → fi' c k a = fi c k a) ∧ p ≤ (tT T).length ∧ fi' 9 2 60 = nI p ∧ fi' 9 3 60 = f3 ∧ fi' 9 4 60 = f4 ∧ fi' 9 5 60 = f5 ∧ fi' 9 6 60 = f6 ∧ fi' 9 7 60 = f7 ∧ fi' 9 8 60 = f8
section
variable {b : UH} {fi : Nat → Nat → Nat → Int32} {fj : Nat → Nat → Nat → Int64} {ai : Nat → Nat → Int32} {aj : Nat → Nat → Int64} {ar : Nat → Nat → Option Nat} {T : TS} {u : UH} {p bits : Nat} {f3 f4 f5 f6 f7 f8 : Int32}
theorem x_accepts (hs : xst b) (hW : WF T) (hP : XPic T b fi fj ai ar) (x1 : Int32) (h : XS T b fi fj ai aj ar p f3 f4 f5 f6 f7 f8 u) : wp (fX9_accepts 60 x1 u) (fun q => (q.1 = 1 ∧ txt T p = some x1 ∧ XS T b fi fj ai aj ar (p + 1) f3 f4 f5 f6 f7 f8 q.2) ∨ (q.1 = 0 ∧ txt T p ≠ some x1 ∧ XS T b fi fj ai aj ar p f3 f4 f5 f6 f7 f8 q.2)) := by
  have h40 : (tT T).length ≤ 40 := hW.2.2.2.2.2.2
  have h0 := h
  obtain ⟨fi', rfl, g1, g2, q2, q3, q4, q5, q6, q7, q8⟩ := h
  have hl : fi' 9 1 60 = nI (tT T).length := (g1 9 1 60 (Or.inr rfl)).trans hP.2.2.2.2.2.2.2.2.1
  unfold fX9_accepts
  refine oi (hs.1 60 10 rfl) (oi (hs.1 60 10 rfl) (wp_le hl q2 (by omega) (by omega) (fun hc => wp_some (Or.inr ⟨rfl, fun z => ?_, h0⟩)) (fun hc => ?_)))
  · have := txt_lt _ _ z
    omega
  have ht : txt T p = some ((tT T)[p]) := List.getElem?_eq_getElem hc
  generalize (tT T)[p] = ch at ht
  refine oR (hs.1 60 10 rfl) (hs.2.2 9 0 60 61 rfl) (oi (hs.1 60 10 rfl) (oL (hs.1 61 22 rfl) (hs.2.1 61 40 rfl) q2 (by omega) (by decide) ?_))
  rw [hP.2.2.2.2.2.2.2.2.2 p ch ht]
  refine wp_if (fun e => oi (hs.1 60 10 rfl) (oW (hs.1 60 10 rfl) (wp_some (Or.inl ⟨rfl, by rw [ht, e], _, rfl, fun c k a hc => ?_, hc, ?_, ?_, ?_, ?_, ?_, ?_, ?_⟩)))) (fun e => wp_some (Or.inr ⟨rfl, fun z => ?_, h0⟩))
  · rcases hc with hc | hc
    · rw [up3_c hc]; exact g1 c k a (Or.inl hc)
    · rw [up3_k (by omega)]; exact g1 c k a (Or.inr hc)
  · rw [up3_s, q2, nI_1]
  · rw [up3_k (by decide)]; exact q3
  · rw [up3_k (by decide)]; exact q4
  · rw [up3_k (by decide)]; exact q5
  · rw [up3_k (by decide)]; exact q6
  · rw [up3_k (by decide)]; exact q7
  · rw [up3_k (by decide)]; exact q8
  · rw [ht] at z; exact e (Option.some.inj z)
theorem xo {β γ : Type} {K : γ → UH → Option β} {P : β → Prop} {y : Option (γ × UH)} {Q : γ × UH → Prop} (hs : xst b) (h : XS T b fi fj ai aj ar p f3 f4 f5 f6 f7 f8 u) (hy : wp y Q) (hK : ∀ z w, Q (z, w) → wp (K z w) P) : wp (ob2 (kd u 9 60 y) K) P := by
  obtain ⟨fi', rfl, _⟩ := h
  exact oK2 (hs.1 60 10 rfl) hy hK
theorem XS.rd {β : Type} {K : Int32 → Option β} {P : β → Prop} (hs : xst b) (h : XS T b fi fj ai aj ar p f3 f4 f5 f6 f7 f8 u) : (wp (K (nI p)) P → wp (ob (rI u 9 2 60) K) P) ∧ (wp (K f3) P → wp (ob (rI u 9 3 60) K) P) ∧ (wp (K f4) P → wp (ob (rI u 9 4 60) K) P) ∧ (wp (K f5) P → wp (ob (rI u 9 5 60) K) P) ∧ (wp (K f6) P → wp (ob (rI u 9 6 60) K) P) ∧ (wp (K f7) P → wp (ob (rI u 9 7 60) K) P) ∧ (wp (K f8) P → wp (ob (rI u 9 8 60) K) P) := by
  obtain ⟨fi', rfl, g1, g2, q2, q3, q4, q5, q6, q7, q8⟩ := h
  subst q3; subst q4; subst q5; subst q6; subst q7; subst q8
  refine ⟨fun z => oi (hs.1 60 10 rfl) ?_, fun z => oi (hs.1 60 10 rfl) z, fun z => oi (hs.1 60 10 rfl) z, fun z => oi (hs.1 60 10 rfl) z, fun z => oi (hs.1 60 10 rfl) z, fun z => oi (hs.1 60 10 rfl) z, fun z => oi (hs.1 60 10 rfl) z⟩
  rw [q2]; exact z
theorem XS.len {β : Type} {K : Int32 → Option β} {P : β → Prop} (hs : xst b) (hP : XPic T b fi fj ai ar) (h : XS T b fi fj ai aj ar p f3 f4 f5 f6 f7 f8 u) (hK : wp (K (nI (tT T).length)) P) : wp (ob (rI u 9 1 60) K) P := by
  obtain ⟨fi', rfl, g1, _⟩ := h
  refine oi (hs.1 60 10 rfl) ?_
  rw [g1 9 1 60 (Or.inr rfl), hP.2.2.2.2.2.2.2.2.1]; exact hK
/-- a write of one of the fields -/
theorem XS.wr {β : Type} {K : UH → Option β} {P : β → Prop} (hs : xst b) (h : XS T b fi fj ai aj ar p f3 f4 f5 f6 f7 f8 u) (v : Int32) : ((∀ u', XS T b fi fj ai aj ar p v f4 f5 f6 f7 f8 u' → wp (K u') P) → wp (ob (wI u 9 3 60 v) K) P) ∧ ((∀ u', XS T b fi fj ai aj ar p f3 v f5 f6 f7 f8 u' → wp (K u') P) → wp (ob (wI u 9 4 60 v) K) P) ∧ ((∀ u', XS T b fi fj ai aj ar p f3 f4 v f6 f7 f8 u' → wp (K u') P) → wp (ob (wI u 9 5 60 v) K) P) ∧ ((∀ u', XS T b fi fj ai aj ar p f3 f4 f5 v f7 f8 u' → wp (K u') P) → wp (ob (wI u 9 6 60 v) K) P) ∧ ((∀ u', XS T b fi fj ai aj ar p f3 f4 f5 f6 v f8 u' → wp (K u') P) → wp (ob (wI u 9 7 60 v) K) P) ∧ ((∀ u', XS T b fi fj ai aj ar p f3 f4 f5 f6 f7 v u' → wp (K u') P) → wp (ob (wI u 9 8 60 v) K) P) := by
  obtain ⟨fi', rfl, g1, g2, q2, q3, q4, q5, q6, q7, q8⟩ := h
  have fr : ∀ j, 2 ≤ j → ∀ c k a, (c ≠ 9 ∨ k = 1) → up3 fi' 9 j 60 v c k a = fi c k a := fun j hj c k a hc => by
    rcases hc with hc | hc
    · rw [up3_c hc]; exact g1 c k a (Or.inl hc)
    · rw [up3_k (by omega)]; exact g1 c k a (Or.inr hc)
  have nk : ∀ {j j' : Nat}, j' ≠ j → up3 fi' 9 j 60 v 9 j' 60 = fi' 9 j' 60 := fun h => up3_k h
  refine ⟨fun z => oW (hs.1 60 10 rfl) (z _ ⟨_, rfl, fr 3 (by decide), g2, ?_⟩), fun z => oW (hs.1 60 10 rfl) (z _ ⟨_, rfl, fr 4 (by decide), g2, ?_⟩), fun z => oW (hs.1 60 10 rfl) (z _ ⟨_, rfl, fr 5 (by decide), g2, ?_⟩), fun z => oW (hs.1 60 10 rfl) (z _ ⟨_, rfl, fr 6 (by decide), g2, ?_⟩), fun z => oW (hs.1 60 10 rfl) (z _ ⟨_, rfl, fr 7 (by decide), g2, ?_⟩), fun z => oW (hs.1 60 10 rfl) (z _ ⟨_, rfl, fr 8 (by decide), g2, ?_⟩)⟩
  · exact ⟨(nk (by decide)).trans q2, up3_s, (nk (by decide)).trans q4, (nk (by decide)).trans q5, (nk (by decide)).trans q6, (nk (by decide)).trans q7, (nk (by decide)).trans q8⟩
  · exact ⟨(nk (by decide)).trans q2, (nk (by decide)).trans q3, up3_s, (nk (by decide)).trans q5, (nk (by decide)).trans q6, (nk (by decide)).trans q7, (nk (by decide)).trans q8⟩
  · exact ⟨(nk (by decide)).trans q2, (nk (by decide)).trans q3, (nk (by decide)).trans q4, up3_s, (nk (by decide)).trans q6, (nk (by decide)).trans q7, (nk (by decide)).trans q8⟩
  · exact ⟨(nk (by decide)).trans q2, (nk (by decide)).trans q3, (nk (by decide)).trans q4, (nk (by decide)).trans q5, up3_s, (nk (by decide)).trans q7, (nk (by decide)).trans q8⟩
  · exact ⟨(nk (by decide)).trans q2, (nk (by decide)).trans q3, (nk (by decide)).trans q4, (nk (by decide)).trans q5, (nk (by decide)).trans q6, up3_s, (nk (by decide)).trans q8⟩
  · exact ⟨(nk (by decide)).trans q2, (nk (by decide)).trans q3, (nk (by decide)).trans q4, (nk (by decide)).trans q5, (nk (by decide)).trans q6, (nk (by decide)).trans q7, up3_s⟩
theorem x_readDigits (hs : xst b) (hW : WF T) (hP : XPic T b fi fj ai ar) (h : XS T b fi fj ai aj ar p f3 f4 f5 f6 f7 f8 u) : wp (fX9_readDigits 60 u) (fun q => q.1 = nI (dgN (txt T) p 4).1 ∧ XS T b fi fj ai aj ar (dgN (txt T) p 4).2 f3 f4 f5 f6 f7 f8 q.2) := by
  unfold fX9_readDigits
  refine wp_obw (Q := fun q => q.1 = nI (dgN (txt T) p 4).1 ∧ XS T b fi fj ai aj ar (dgN (txt T) p 4).2 f3 f4 f5 f6 f7 f8 q.2) ?_ (fun q hq => wp_some hq)
  refine it3_up2F (show (0 : Int32) = nI 0 from rfl) 4 (by decide) (fun n z u => z = nI (dgN (txt T) p n).1 ∧ XS T b fi fj ai aj ar (dgN (txt T) p n).2 f3 f4 f5 f6 f7 f8 u) (fun k n z u hn hI hk => ?_) (Nat.zero_le _) ⟨rfl, h⟩
  obtain ⟨rfl, hx⟩ := hI
  unfold fX9_readDigits_B4
  refine wp_le (a := 4) rfl rfl (by decide) (by omega) (fun hc => wp_some ?_) (fun hc => ?_)
  · have : n = 4 := by omega
    subst this; exact ⟨rfl, hx⟩
  rw [jc_d n hc]
  refine xo hs hx (x_accepts hs hW hP _ hx) (fun y w hq => ?_)
  rcases hq with ⟨y1, y2, y3⟩ | ⟨y1, y2, y3⟩
  · dsimp only at y1
    refine wp_f (by rw [y1]; decide) (wp_lt (hk hc _ _ _ (nI_1 n) ?_))
    rw [dgN_s, if_pos y2, jsl_1 (by omega), nx_or]
    exact ⟨rfl, y3⟩
  · refine wp_t y1 (hk hc _ _ _ (nI_1 n) ?_)
    rw [dgN_s, if_neg y2]
    exact ⟨rfl, y3⟩
theorem x_readsPorts (hs : xst b) (hW : WF T) (hP : XPic T b fi fj ai ar) (h : XS T b fi fj ai aj ar p f3 f4 f5 f6 f7 f8 u) : wp (fX9_readsPorts 60 u) (fun q => q.1 = (if (prt (txt T) p).1 = 0 then 0 else 1) ∧ XS T b fi fj ai aj ar (prt (txt T) p).2 (nI (prt (txt T) p).1) f4 f5 f6 f7 f8 q.2) := by
  have fin : ∀ {p' s : Nat} {u : UH}, s < 16 → XS T b fi fj ai aj ar p' f3 f4 f5 f6 f7 f8 u → wp (fX9_readsPorts_19 60 (nI s) 60 u) (fun q => q.1 = (if s = 0 then 0 else 1) ∧ XS T b fi fj ai aj ar p' (nI s) f4 f5 f6 f7 f8 q.2) := by
    intro p' s u hs16 hx
    unfold fX9_readsPorts_19
    refine (hx.wr hs _).1 (fun u' hx' => (hx'.rd hs).2.1 (wp_eqq (b := 0) rfl rfl (by omega) (by decide) (fun e => wp_some ⟨by rw [if_pos e], hx'⟩) (fun e => wp_some ⟨by rw [if_neg e], hx'⟩)))
  unfold fX9_readsPorts
  refine xo hs h (x_accepts hs hW hP _ h) (fun y w hq => ?_)
  rcases hq with ⟨y1, y2, y3⟩ | ⟨y1, y2, y3⟩
  · dsimp only at y1
    refine wp_f (by rw [y1]; decide) ?_
    unfold prt
    rw [if_pos y2]
    exact fin (s := 15) (by decide) y3
  · refine wp_t y1 (xo hs y3 (x_readDigits hs hW hP y3) (fun z w hq => ?_))
    obtain ⟨z1, z2⟩ := hq
    dsimp only at z1 z2
    subst z1
    unfold prt
    rw [if_neg y2]
    exact fin (dgN_lt _ _ 4) z2
theorem x_readsPattern (hs : xst b) (hW : WF T) (hP : XPic T b fi fj ai ar) (hb : BW bits) (h : XS T b fi fj ai aj ar p f3 f4 f5 f6 f7 f8 u) : wp (fX9_readsPattern 60 (nI bits) u) (fun q => q.1 = (if (ptN (txt T) bits p 0 0).1 = true then 1 else 0) ∧ XS T b fi fj ai aj ar (ptN (txt T) bits p 0 0).2.2.2 f3 f4 (nI (ptN (txt T) bits p 0 0).2.1) (nI (ptN (txt T) bits p 0 0).2.2.1) f7 f8 q.2) := by
  have hb5 := hb.2
  unfold fX9_readsPattern
  refine (h.wr hs _).2.2.1 (fun u1 h1 => (h1.wr hs _).2.2.2.1 (fun u2 h2 => wp_lt ?_))
  generalize hR : ptN (txt T) bits p 0 0 = R
  refine wp_oew (Q := fun q => match q with
    | .inl u => R.1 = true ∧ XS T b fi fj ai aj ar R.2.2.2 f3 f4 (nI R.2.1) (nI R.2.2.1) f7 f8 u
    | .inr q => q.1 = (if R.1 = true then 1 else 0) ∧ XS T b fi fj ai aj ar R.2.2.2 f3 f4 (nI R.2.1) (nI R.2.2.1) f7 f8 q.2) ?_ (fun u hu => wp_some ⟨by rw [if_pos hu.1], hu.2⟩) (fun q hq => wp_some hq)
  refine it2_gh (I := fun n y u => n ≤ 5 ∧ y = nI n - 1 ∧ ∃ p' c v, XS T b fi fj ai aj ar p' f3 f4 (nI c) (nI v) f7 f8 u ∧ ptN (txt T) n p' c v = R) (fun k n y u hI hk => ?_) FUEL bits _ _ ⟨hb5, rfl, p, 0, 0, h2, hR⟩ (by unfold FUEL; omega)
  obtain ⟨hn5, rfl, p', c, v, hx, he⟩ := hI
  unfold fX9_readsPattern_B14
  rcases Nat.eq_zero_or_pos n with h0 | h0
  · subst h0
    have he' : (true, c, v, p') = R := he
    subst he'
    exact wp_t (by decide) (wp_some ⟨rfl, hx⟩)
  obtain ⟨n, rfl⟩ : ∃ q, n = q + 1 := ⟨n - 1, by omega⟩
  rw [nI_dec h0, Nat.add_sub_cancel]
  unfold ptN at he
  refine wp_f (nI_pos (by omega)) (xo hs hx (x_accepts hs hW hP _ hx) (fun y w hq => ?_))
  rcases hq with ⟨y1, y2, y3⟩ | ⟨y1, y2, y3⟩
  · dsimp only at y1
    rw [if_pos y2] at he
    refine wp_f (by rw [y1]; decide) ((y3.rd hs).2.2.2.1 ((y3.wr hs _).2.2.1 (fun u4 h4 => (h4.rd hs).2.2.2.2.1 ((h4.wr hs _).2.2.2.1 (fun u5 h5 => ?_)))))
    rw [jsl_1 (by omega), nx_or, nx_or] at h5
    exact hk n _ _ (by omega) ⟨by omega, sub1 n, p' + 1, _, _, h5, he⟩
  · rw [if_neg y2] at he
    refine wp_t y1 (xo hs y3 (x_accepts hs hW hP _ y3) (fun z w hq => ?_))
    rcases hq with ⟨z1, z2, z3⟩ | ⟨z1, z2, z3⟩
    · dsimp only at z1
      rw [if_pos z2] at he
      refine wp_f (by rw [z1]; decide) ((z3.rd hs).2.2.2.1 ((z3.wr hs _).2.2.1 (fun u4 h4 => ?_)))
      rw [jsl_1 (by omega), nx_or] at h4
      exact hk n _ _ (by omega) ⟨by omega, sub1 n, p' + 1, _, _, h4, he⟩
    · rw [if_neg z2] at he
      refine wp_t z1 (xo hs z3 (x_accepts hs hW hP _ z3) (fun a w hq => ?_))
      rcases hq with ⟨a1, a2, a3⟩ | ⟨a1, a2, a3⟩
      · dsimp only at a1
        rw [if_pos a2] at he
        exact wp_f (by rw [a1]; decide) (hk n _ _ (by omega) ⟨by omega, sub1 n, p' + 1, _, _, a3, he⟩)
      · rw [if_neg a2] at he
        subst he
        exact wp_t a1 (wp_some ⟨rfl, a3⟩)
theorem x_readsOutputs (hs : xst b) (hW : WF T) (hP : XPic T b fi fj ai ar) (h : XS T b fi fj ai aj ar p f3 f4 f5 f6 f7 f8 u) : wp (fX9_readsOutputs 60 u) (fun q => q.1 = (if (dgN (txt T) p 4).1 = 0 then 0 else 1) ∧ XS T b fi fj ai aj ar (dgN (txt T) p 4).2 f3 (nI (dgN (txt T) p 4).1) f5 f6 f7 f8 q.2) := by
  unfold fX9_readsOutputs
  have hlt := dgN_lt (txt T) p 4
  refine xo hs h (x_readDigits hs hW hP h) (fun y w hq => ?_)
  obtain ⟨y1, y2⟩ := hq
  dsimp only at y1 y2
  subst y1
  exact (y2.wr hs _).2.1 (fun u1 h1 => (h1.rd hs).2.2.1 (wp_eqq (b := 0) rfl rfl (by omega) (by decide) (fun e => wp_some ⟨by rw [if_pos e], h1⟩) (fun e => wp_some ⟨by rw [if_neg e], h1⟩)))
theorem x_readsRewriting (hs : xst b) (hW : WF T) (hP : XPic T b fi fj ai ar) (hb : BW bits) (h : XS T b fi fj ai aj ar p f3 f4 f5 f6 f7 f8 u) : wp (fX9_readsRewriting 60 (nI bits) u) (fun q => (q.1 = 1 ∧ p = (tT T).length ∧ XS T b fi fj ai aj ar p f3 f4 f5 f6 f7 f8 q.2) ∨ (txt T p = some 61 ∧ q.1 = (if (ptN (txt T) bits (p + 1) 0 0).1 = true then 1 else 0) ∧ XS T b fi fj ai aj ar (ptN (txt T) bits (p + 1) 0 0).2.2.2 f3 f4 f5 f6 (nI (ptN (txt T) bits (p + 1) 0 0).2.1) (nI (ptN (txt T) bits (p + 1) 0 0).2.2.1) q.2) ∨ (p ≠ (tT T).length ∧ txt T p ≠ some 61 ∧ q.1 = 0 ∧ XS T b fi fj ai aj ar p f3 f4 f5 f6 f5 f6 q.2)) := by
  have h40 : (tT T).length ≤ 40 := hW.2.2.2.2.2.2
  have hple : p ≤ (tT T).length := by obtain ⟨_, _, _, z, _⟩ := h; exact z
  have f45 : ∀ {p' : Nat} {e5 e6 e7 e8 s0 : Int32} {u : UH} {P : Int32 × UH → Prop}, (s0 = 0 ∨ s0 = 1) → XS T b fi fj ai aj ar p' f3 f4 e5 e6 e7 e8 u → (∀ u', XS T b fi fj ai aj ar p' f3 f4 f5 f6 e5 e6 u' → P (s0, u')) → wp (fX9_readsRewriting_45 60 f5 f6 s0 u) P := by
    intro p' e5 e6 e7 e8 s0 u P h01 hx hq
    unfold fX9_readsRewriting_45
    exact (hx.rd hs).2.2.2.1 ((hx.wr hs _).2.2.2.2.1 (fun u1 h1 => (h1.rd hs).2.2.2.2.1 ((h1.wr hs _).2.2.2.2.2 (fun u2 h2 => (h2.wr hs _).2.2.1 (fun u3 h3 => (h3.wr hs _).2.2.2.1 (fun u4 h4 => wp_bz h01 (wp_some (hq _ h4))))))))
  unfold fX9_readsRewriting
  refine (h.rd hs).1 (h.len hs hP (wp_eqq rfl rfl (by omega) (by omega) (fun e => wp_some (Or.inl ⟨rfl, e, h⟩)) (fun e => ?_)))
  refine (h.rd hs).2.2.2.1 ((h.rd hs).2.2.2.2.1 (xo hs h (x_accepts hs hW hP _ h) (fun y w hq => ?_)))
  rcases hq with ⟨y1, y2, y3⟩ | ⟨y1, y2, y3⟩
  · dsimp only at y1
    refine wp_f (by rw [y1]; decide) (xo hs y3 (x_readsPattern hs hW hP hb y3) (fun z w hq => ?_))
    obtain ⟨z1, z2⟩ := hq
    dsimp only at z1 z2
    cases hR : (ptN (txt T) bits (p + 1) 0 0).1 with
    | true =>
      rw [hR, if_pos rfl] at z1
      exact wp_f (by rw [z1]; decide) (f45 (Or.inr rfl) z2 (fun u' hx => Or.inr (Or.inl ⟨y2, by rw [if_pos rfl], hx⟩)))
    | false =>
      rw [hR, if_neg (by decide)] at z1
      refine wp_t z1 ?_
      unfold fX9_readsRewriting_44
      exact f45 (Or.inl rfl) z2 (fun u' hx => Or.inr (Or.inl ⟨y2, by rw [if_neg (by decide)], hx⟩))
  · refine wp_t y1 ?_
    unfold fX9_readsRewriting_44
    exact f45 (Or.inl rfl) y3 (fun u' hx => Or.inr (Or.inr ⟨e, y2, rfl, hx⟩))
def PX (T : TS) (b : UH) (fi : Nat → Nat → Nat → Int32) (fj : Nat → Nat → Nat → Int64) (ai : Nat → Nat → Int32) (aj : Nat → Nat → Int64) (ar : Nat → Nat → Option Nat) (r : PR) (q : Int32 × UH) : Prop := match r with
  | .inl f => q.1 = 0 ∧ ∃ e3 e4 e5 e6 e7 e8, XS T b fi fj ai aj ar f e3 e4 e5 e6 e7 e8 q.2
  | .inr (ps, c, v, o, ch, t) => q.1 = 1 ∧ ∃ p, XS T b fi fj ai aj ar p (nI ps) (nI o) (nI c) (nI v) (nI ch) (nI t) q.2
theorem x_isRule (hs : xst b) (hW : WF T) (hP : XPic T b fi fj ai ar) : wp (fX9_isRule 60 (nI (tB T)) (mk b fi fj ai aj ar)) (PX T b fi fj ai aj ar (prs (tB T) (txt T) (tT T).length)) := by
  have h40 : (tT T).length ≤ 40 := hW.2.2.2.2.2.2
  unfold fX9_isRule
  refine oW (hs.1 60 10 rfl) ?_
  have h0 : XS T b fi fj ai aj ar 0 (fi 9 3 60) (fi 9 4 60) (fi 9 5 60) (fi 9 6 60) (fi 9 7 60) (fi 9 8 60) (mk b (up3 fi 9 2 60 0) fj ai aj ar) := ⟨_, rfl, fun c k a hc => by
    rcases hc with hc | hc
    · exact up3_c hc
    · exact up3_k (by omega), Nat.zero_le _, up3_s, up3_k (by decide), up3_k (by decide), up3_k (by decide), up3_k (by decide), up3_k (by decide), up3_k (by decide)⟩
  refine (h0.wr hs _).2.1 (fun u1 h1 => (h1.wr hs _).2.2.2.2.1 (fun u2 h2 => (h2.wr hs _).2.2.2.2.2 (fun u3 h3 => xo hs h3 (x_readsPorts hs hW hP h3) (fun y w hq => ?_))))
  obtain ⟨y1, y2⟩ := hq
  dsimp only at y1 y2
  unfold prs
  by_cases e1 : (prt (txt T) 0).1 = 0
  · rw [if_pos e1] at y1
    rw [if_pos e1]
    exact wp_t y1 (wp_some ⟨rfl, _, _, _, _, _, _, y2⟩)
  rw [if_neg e1] at y1
  rw [if_neg e1]
  refine wp_f (by rw [y1]; decide) (xo hs y2 (x_accepts hs hW hP _ y2) (fun y w hq => ?_))
  rcases hq with ⟨z1, z2, z3⟩ | ⟨z1, z2, z3⟩
  rotate_left
  · rw [if_neg z2]
    exact wp_t z1 (wp_some ⟨rfl, _, _, _, _, _, _, z3⟩)
  dsimp only at z1
  rw [if_pos z2]
  refine wp_f (by rw [z1]; decide) (xo hs z3 (x_readsPattern hs hW hP hW.1 z3) (fun y w hq => ?_))
  obtain ⟨a1, a2⟩ := hq
  dsimp only at a1 a2
  generalize ptN (txt T) (tB T) ((prt (txt T) 0).2 + 1) 0 0 = R at a1 a2 ⊢
  unfold prs2
  by_cases e2 : R.1 = true
  rotate_left
  · rw [if_neg e2] at a1
    rw [if_neg e2]
    exact wp_t a1 (wp_some ⟨rfl, _, _, _, _, _, _, a2⟩)
  rw [if_pos e2] at a1
  rw [if_pos e2]
  refine wp_f (by rw [a1]; decide) (xo hs a2 (x_accepts hs hW hP _ a2) (fun y w hq => ?_))
  rcases hq with ⟨b1, b2, b3⟩ | ⟨b1, b2, b3⟩
  · dsimp only at b1
    rw [if_pos b2]
    have hlt := txt_lt _ _ b2
    refine wp_f (by rw [b1]; decide) ((b3.rd hs).1 (b3.len hs hP (wp_eqq rfl rfl (by omega) (by omega) (fun e => ?_) (fun e => ?_))))
    · rw [if_pos e]
      exact wp_some ⟨rfl, _, b3⟩
    · rw [if_neg e]
      exact wp_some ⟨rfl, _, _, _, _, _, _, b3⟩
  rw [if_neg b2]
  refine wp_t b1 (xo hs b3 (x_accepts hs hW hP _ b3) (fun y w hq => ?_))
  rcases hq with ⟨c1, c2, c3⟩ | ⟨c1, c2, c3⟩
  rotate_left
  · rw [if_neg c2]
    exact wp_t c1 (wp_some ⟨rfl, _, _, _, _, _, _, c3⟩)
  dsimp only at c1
  rw [if_pos c2]
  refine wp_f (by rw [c1]; decide) (xo hs c3 (x_readsOutputs hs hW hP c3) (fun y w hq => ?_))
  obtain ⟨d1, d2⟩ := hq
  dsimp only at d1 d2
  generalize dgN (txt T) (R.2.2.2 + 1) 4 = Dd at d1 d2 ⊢
  unfold prs3
  by_cases e3 : Dd.1 = 0
  · rw [if_pos e3] at d1
    rw [if_pos e3]
    exact wp_t d1 (wp_some ⟨rfl, _, _, _, _, _, _, d2⟩)
  rw [if_neg e3] at d1
  rw [if_neg e3]
  refine wp_f (by rw [d1]; decide) (xo hs d2 (x_readsRewriting hs hW hP hW.1 d2) (fun y w hq => ?_))
  rcases hq with ⟨g1, g2, g3⟩ | ⟨g1, g2, g3⟩ | ⟨g1, g2, g3, g4⟩
  · dsimp only at g1 g3
    have hno : ¬ txt T Dd.2 = some 61 := fun z => by have := txt_lt _ _ z; omega
    rw [if_neg hno, if_pos g2]
    refine wp_f (by rw [g1]; decide) ((g3.rd hs).1 (g3.len hs hP (wp_t (by rw [g2]) (wp_some ⟨rfl, _, g3⟩))))
  · dsimp only at g2 g3
    rw [if_pos g1]
    have hlt := txt_lt _ _ g1
    generalize hR2 : ptN (txt T) (tB T) (Dd.2 + 1) 0 0 = R2 at g2 g3 ⊢
    unfold prs4
    by_cases e4 : R2.1 = true
    · rw [if_pos e4] at g2
      rw [if_pos e4]
      have hle : R2.2.2.2 ≤ (tT T).length := by obtain ⟨_, _, _, z, _⟩ := g3; exact z
      refine wp_f (by rw [g2]; decide) ((g3.rd hs).1 (g3.len hs hP (wp_eqq rfl rfl (by omega) (by omega) (fun e => ?_) (fun e => ?_))))
      · rw [if_pos e]
        exact wp_some ⟨rfl, _, g3⟩
      · rw [if_neg e]
        exact wp_some ⟨rfl, _, _, _, _, _, _, g3⟩
    · rw [if_neg e4] at g2
      rw [if_neg e4]
      exact wp_t g2 (wp_some ⟨rfl, _, _, _, _, _, _, g3⟩)
  · dsimp only at g3 g4
    rw [if_neg g2, if_neg g1]
    exact wp_t g3 (wp_some ⟨rfl, _, _, _, _, _, _, g4⟩)
end
