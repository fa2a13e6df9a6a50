theorem RW_rd {b ps c v o ch t : Nat} (h : 1 ≤ ps ∧ ps ≤ 15 ∧ c < 2 ^ b ∧ v < 2 ^ b ∧ v &&& c = v ∧ o ≤ 15 ∧ ch < 2 ^ b ∧ t < 2 ^ b ∧ t &&& ch = t ∧ (o = 0 → ch = 0)) : RW b (mkR ps c v o ch t 1) := by
  obtain ⟨h1, h2, h3, h4, h5, h6, h7, h8, h9, h10⟩ := h
  exact ⟨h1, h2, h3, h4, h5, h6, h7, h8, h9, Or.inr rfl, h10⟩
section
variable {b : UH} {fi : Nat → Nat → Nat → Int32} {fj : Nat → Nat → Nat → Int64} {ai : Nat → Nat → Int32} {aj : Nat → Nat → Int64} {ar : Nat → Nat → Option Nat} {T : TS} {u : UH} {p box : Nat} {g c v x2 x3 x4 x5 : Int32}
/-- what the reference answers -/
def PM (T : TS) (box : Nat) (r : PR) (q : Int32 × UH) : Prop := match r with
  | .inl f => q.1 = -100 - nI f ∧ MR T q.2
  | .inr (ps, c, v, o, ch, t) => q.1 = insV T box ∧ MR (insT T box (tR T box).length (mkR ps c v o ch t 1)) q.2
theorem m_166_bad (hs : mst b) (hM : MPic T fi ai) {x1 : Int32} (h : RS T b fi fj ai aj ar p 0 c v u) : wp (fX12_readRule_166 0 x1 x2 x3 x4 x5 u) (PM T box (.inl p)) := by
  unfold fX12_readRule_166
  exact (h.rd hs).2.1 (wp_t rfl ((h.rd hs).1 (wp_some ⟨rfl, h.mr hs hM⟩)))
theorem m_166_more (hW : WF T) (hs : mst b) (hM : MPic T fi ai) {x1 : Int32} (h : RS T b fi fj ai aj ar p 1 c v u) (hp : p ≠ (tT T).length) : wp (fX12_readRule_166 0 x1 x2 x3 x4 x5 u) (PM T box (.inl p)) := by
  have h40 : (tT T).length ≤ 40 := hW.2.2.2.2.2.2
  have hple : p ≤ (tT T).length := by obtain ⟨_, _, _, z, _⟩ := h; exact z
  unfold fX12_readRule_166
  exact (h.rd hs).2.1 (wp_f (by decide) ((h.rd hs).1 (h.len hs hM (wp_f (nI_ge (by omega) (by omega)) ((h.rd hs).1 (wp_some ⟨rfl, h.mr hs hM⟩))))))
theorem m_166_ok {ps c v o ch t : Nat} (hW : WF T) (hs : mst b) (hM : MPic T fi ai) (hb : box < 6) (hr : 1 ≤ ps ∧ ps ≤ 15 ∧ c < 2 ^ tB T ∧ v < 2 ^ tB T ∧ v &&& c = v ∧ o ≤ 15 ∧ ch < 2 ^ tB T ∧ t < 2 ^ tB T ∧ t &&& ch = t ∧ (o = 0 → ch = 0)) (h : RS T b fi fj ai aj ar (tT T).length 1 (nI ch) (nI t) u) : wp (fX12_readRule_166 0 (nI box) (nI ps) (nI c) (nI v) (nI o) u) (PM T box (.inr (ps, c, v, o, ch, t))) := by
  have h40 : (tT T).length ≤ 40 := hW.2.2.2.2.2.2
  have h66 := (hW.2.2.1 box hb).1
  have hl : ∀ bx, bx < 6 → (tR T bx).length ≤ 6 := fun bx hbx => (hW.2.2.1 bx hbx).1
  obtain ⟨r1, r2, r3, r4, r5, r6, r7, r8, r9, r10⟩ := hr
  unfold fX12_readRule_166
  refine (h.rd hs).2.1 (wp_f (by decide) ((h.rd hs).1 (h.len hs hM (wp_t (nI_le (Nat.le_refl _) (by omega)) ?_))))
  have h' := h
  obtain ⟨fi1, rfl, g1, _, _, _, q29, q30⟩ := h'
  obtain ⟨_, e, hM1⟩ := h.pic hM
  have hM2 : MPic T fi1 ai := hM.sc (fun k hk => g1 k (by omega) (by omega) (by omega) (by omega)) msA.refl
  refine mE hs (m_manyr hs hM2.2.2.2.1 rfl hb) (wp_eqq (b := 6) rfl rfl (by omega) (by decide) (fun e6 => ?_) (fun e6 => ?_))
  · refine wp_some ⟨?_, ?_⟩
    · show (-5 : Int32) = insV T box
      unfold insV; rw [if_neg (by omega)]
    · unfold insT; rw [if_neg (by omega)]; exact MR_mk hs hM2
  have hlt : (tR T box).length < 6 := by omega
  refine mE hs (m_manyr hs hM2.2.2.2.1 rfl hb) (mK2 hs (m_insert_ok hs hW hM2 rfl hb rfl (Nat.le_refl _) rfl r1 r2 rfl r3 rfl r4 (o := o) rfl r6) (fun y w hq => ?_))
  obtain ⟨y1, fi2, ai2, e2, k1, hM3, hX⟩ := hq
  dsimp only at y1 e2
  subst e2
  have hX' := hX hlt (mkR ps c v o ch t 1)
  have hi : (tR T box).length ≤ (tR T box).length := Nat.le_refl _
  have hget : ∀ r : RT, (setB (tR T) box ((tR T box).insertIdx (tR T box).length r) box)[(tR T box).length]? = some r := fun r => by
    rw [setB_s, List.getElem?_insertIdx_self, if_pos hi]
  have hM3' : MPic (edT T (setB (tR T) box ((tR T box).insertIdx (tR T box).length (mkR ps c (v &&& c) o 0 0 1))) (nxH T)) fi2 ai2 := by
    unfold insT at hM3; rw [if_pos hlt] at hM3; exact hM3
  have hrow := (hM3'.2.2.2.1 box hb).2 _ _ (hget _)
  refine mI hs ?_
  rw [k1 29 (by decide), q29]
  refine mE hs (m_put (f := 4) hs rfl rfl rfl hb hlt (by decide)) (mI hs ?_)
  rw [k1 30 (by decide), q30]
  refine mE hs (m_put (f := 5) hs rfl rfl rfl hb hlt (by decide)) (wp_some ⟨y1, ?_⟩)
  unfold insT
  rw [if_pos hlt]
  refine MR_mk hs ?_
  have hT : ∀ {rb : RB}, NowP (up2 (up2 ai2 2 (7 * (6 * box + (tR T box).length) + 4) (nI ch)) 2 (7 * (6 * box + (tR T box).length) + 5) (nI t) 2) rb → MPic (edT T rb (nxH T)) fi2 (up2 (up2 ai2 2 (7 * (6 * box + (tR T box).length) + 4) (nI ch)) 2 (7 * (6 * box + (tR T box).length) + 5) (nI t)) := by
    intro rb hN
    obtain ⟨p1, p2, p3, p4, ⟨p5, p6⟩, ⟨p7, p8, p9⟩, ⟨p10, p11⟩, p12, p13⟩ := hM3'
    have ea : ∀ a, a ≠ 2 → up2 (up2 ai2 2 (7 * (6 * box + (tR T box).length) + 4) (nI ch)) 2 (7 * (6 * box + (tR T box).length) + 5) (nI t) a = ai2 a := fun a ha => by rw [up2_a ha, up2_a ha]
    refine ⟨p1, by rw [ea 1 (by decide)]; exact p2, p3, hN, ⟨p5, fun j H hj => by rw [ea 3 (by decide)]; exact p6 j H hj⟩, ⟨p7, p8, p9⟩, ⟨p10, fun i p hp => ?_⟩, p12, fun i c hc => by rw [ea 17 (by decide)]; exact p13 i c hc⟩
    rw [ea 12 (by decide), ea 13 (by decide), ea 14 (by decide), ea 15 (by decide), ea 16 (by decide)]; exact p11 i p hp
  refine hT (hX'.put (fun bx hbx => ?_) hb (hget _) (fun y hy => ?_) ?_)
  · by_cases e : bx = box
    · subst e; rw [setB_s, List.length_insertIdx_of_le_length hi]; omega
    · rw [setB_n e]; exact hl bx hbx
  · rw [up2_i (hy 5 (by decide)), up2_i (hy 4 (by decide))]
  · refine mkR_eq (g := fun f => up2 (up2 ai2 2 (7 * (6 * box + (tR T box).length) + 4) (nI ch)) 2 (7 * (6 * box + (tR T box).length) + 5) (nI t) 2 (7 * (6 * box + (tR T box).length) + f)) ?_ ?_ ?_ ?_ ?_ ?_ ?_
    · rw [up2_i (by omega), up2_i (by omega)]; exact hrow 0 (by decide)
    · rw [up2_i (by omega), up2_i (by omega)]; exact hrow 1 (by decide)
    · rw [up2_i (by omega), up2_i (by omega)]
      have := hrow 2 (by decide)
      rw [r5] at this
      exact this
    · rw [up2_i (by omega), up2_i (by omega)]; exact hrow 3 (by decide)
    · rw [up2_i (by omega), up2_s]
    · rw [up2_s]
    · rw [up2_i (by omega), up2_i (by omega)]; exact hrow 6 (by decide)
theorem m_104_bad (hW : WF T) (hs : mst b) (hM : MPic T fi ai) {x1 : Int32} (h : RS T b fi fj ai aj ar p 0 c v u) : wp (fX12_readRule_104 0 x1 x2 x3 x4 x5 0 u) (PM T box (.inl p)) := by
  unfold fX12_readRule_104
  refine wp_t rfl (mo hs h (m_expect_bad hW hs hM _ h) (fun u1 h1 => mo2 hs h1 (m_readPorts_bad hW hs hM h1) (fun y w hq => ?_)))
  obtain ⟨_, h2⟩ := hq
  exact (h2.rd hs).2.1 (wp_t rfl (m_166_bad hs hM h2))
theorem m_49_rest_bad (hW : WF T) (hs : mst b) (hM : MPic T fi ai) {x1 : Int32} (h : RS T b fi fj ai aj ar p 0 c v u) : wp (ob (rI u 12 29 0) fun y9 => ob (rI u 12 30 0) fun y10 => ob (wI u 12 29 0 (0 : Int32)) fun u11 => ob (wI u11 12 30 0 (0 : Int32)) fun u12 => ob (rI u12 12 28 0) fun y13 => if y13 = (0 : Int32) then (fX12_readRule_103 0 x1 x2 y9 y10 (0 : Int32) u12) else ob (kd u12 12 0 (fX12_isAt 0 (33 : Int32) u12)) fun y37 => if y37 = (0 : Int32) then (fX12_readRule_103 0 x1 x2 y9 y10 (0 : Int32) u12) else fX12_readRule_104 0 x1 x2 y9 y10 (0 : Int32) (1 : Int32) u12) (PM T box (.inl p)) := by
  refine (h.rd hs).2.2.1 ((h.rd hs).2.2.2 ((h.wr hs).2.2.1 0 (fun u1 h1 => (h1.wr hs).2.2.2 0 (fun u2 h2 => (h2.rd hs).2.1 (wp_t rfl ?_)))))
  unfold fX12_readRule_103
  exact m_104_bad hW hs hM h2
theorem m_49_bad (hW : WF T) (hs : mst b) (hM : MPic T fi ai) {x1 : Int32} (h : RS T b fi fj ai aj ar p 0 c v u) : wp (fX12_readRule_49 0 x1 x2 u) (PM T box (.inl p)) := by
  unfold fX12_readRule_49
  exact mo hs h (m_expect_bad hW hs hM _ h) (fun u1 h1 => mo hs h1 (m_readPattern_bad hW hs hM h1) (fun u2 h2 => m_49_rest_bad hW hs hM h2))
theorem m_readRule (hW : WF T) (hs : mst b) (hM : MPic T fi ai) (hb : box < 6) : wp (fX12_readRule 0 (nI box) (mk b fi fj ai aj ar)) (PM T box (prs (tB T) (txt T) (tT T).length)) := by
  have h40 : (tT T).length ≤ 40 := hW.2.2.2.2.2.2
  have hrg := fun ps c v o ch t (h : prs (tB T) (txt T) (tT T).length = .inr (ps, c, v, o, ch, t)) => prs_rg txt_lt h
  generalize hpr : prs (tB T) (txt T) (tT T).length = r at hrg
  have c49 : ∀ {c v : Int32} {u : UH}, RS T b fi fj ai aj ar (prt (txt T) 0).2 (if (prt (txt T) 0).1 = 0 then 0 else 1) c v u → wp (fX12_readRule_49 0 (nI box) (nI (prt (txt T) 0).1) u) (PM T box r) := by
    intro c v u hx
    unfold prs at hpr
    by_cases e1 : (prt (txt T) 0).1 = 0
    · rw [if_pos e1] at hx hpr
      subst hpr
      exact m_49_bad hW hs hM hx
    rw [if_neg e1] at hx hpr
    unfold fX12_readRule_49
    refine mo hs hx (m_expect hW hs hM _ hx) (fun u1 h1 => ?_)
    rcases h1 with ⟨t1, h1⟩ | ⟨t1, h1⟩
    rotate_left
    · rw [if_neg t1] at hpr
      subst hpr
      exact mo hs h1 (m_readPattern_bad hW hs hM h1) (fun u2 h2 => m_49_rest_bad hW hs hM h2)
    rw [if_pos t1] at hpr
    refine mo hs h1 (m_readPattern hW hs hM h1) (fun u2 h2 => ?_)
    generalize ptN (txt T) (tB T) ((prt (txt T) 0).2 + 1) 0 0 = R at h2 hpr
    unfold prs2 at hpr
    by_cases e2 : R.1 = true
    rotate_left
    · rw [if_neg e2] at h2 hpr
      subst hpr
      exact m_49_rest_bad hW hs hM h2
    rw [if_pos e2] at h2 hpr
    refine (h2.rd hs).2.2.1 ((h2.rd hs).2.2.2 ((h2.wr hs).2.2.1 0 (fun u3 h3 => (h3.wr hs).2.2.2 0 (fun u4 h4 => (h4.rd hs).2.1 (wp_f (by decide) (mo hs h4 (m_isAt hW hs hM _ h4) (fun y hy => ?_)))))))
    rcases hy with ⟨y1, y2⟩ | ⟨y1, y2⟩
    · rw [if_pos y2] at hpr
      have hlt := txt_lt _ _ y2
      refine wp_f (by rw [y1]; decide) ?_
      unfold fX12_readRule_104
      refine wp_f (by decide) ((h4.rd hs).1 ?_)
      rw [nI_1]
      refine (h4.wr hs).1 (R.2.2.2 + 1) hlt (fun u5 h5 => ?_)
      by_cases e3 : R.2.2.2 + 1 = (tT T).length
      · rw [if_pos e3] at hpr
        rw [e3] at h5
        subst hpr
        exact m_166_ok (o := 0) (ch := 0) (t := 0) hW hs hM hb (hrg _ _ _ _ _ _ rfl) h5
      · rw [if_neg e3] at hpr
        subst hpr
        exact m_166_more hW hs hM h5 e3
    · rw [if_neg y2] at hpr
      refine wp_t y1 ?_
      unfold fX12_readRule_103 fX12_readRule_104
      refine wp_t rfl (mo hs h4 (m_expect hW hs hM _ h4) (fun u5 h5 => ?_))
      rcases h5 with ⟨t5, h5⟩ | ⟨t5, h5⟩
      rotate_left
      · rw [if_neg t5] at hpr
        subst hpr
        refine mo2 hs h5 (m_readPorts_bad hW hs hM h5) (fun y w hq => ?_)
        obtain ⟨_, h6⟩ := hq
        exact (h6.rd hs).2.1 (wp_t rfl (m_166_bad hs hM h6))
      rw [if_pos t5] at hpr
      refine mo2 hs h5 (m_readPorts hW hs hM h5) (fun y w hq => ?_)
      obtain ⟨q1, h6⟩ := hq
      dsimp only at q1 h6
      subst q1
      generalize dgN (txt T) (R.2.2.2 + 1) 4 = Dd at h6 hpr ⊢
      unfold prs3 at hpr
      by_cases e3 : Dd.1 = 0
      · rw [if_pos e3] at h6 hpr
        subst hpr
        exact (h6.rd hs).2.1 (wp_t rfl (m_166_bad hs hM h6))
      rw [if_neg e3] at h6 hpr
      refine (h6.rd hs).2.1 (wp_f (by decide) (mo hs h6 (m_isAt hW hs hM _ h6) (fun y hy => ?_)))
      rcases hy with ⟨z1, z2⟩ | ⟨z1, z2⟩
      · rw [if_pos z2] at hpr
        have hlt := txt_lt _ _ z2
        refine wp_f (by rw [z1]; decide) ((h6.rd hs).1 ?_)
        rw [nI_1]
        refine (h6.wr hs).1 (Dd.2 + 1) hlt (fun u7 h7 => mo hs h7 (m_readPattern hW hs hM h7) (fun u8 h8 => ?_))
        generalize ptN (txt T) (tB T) (Dd.2 + 1) 0 0 = R2 at h8 hpr
        unfold prs4 at hpr
        by_cases e4 : R2.1 = true
        · rw [if_pos e4] at h8 hpr
          by_cases e5 : R2.2.2.2 = (tT T).length
          · rw [if_pos e5] at hpr
            rw [e5] at h8
            subst hpr
            exact m_166_ok hW hs hM hb (hrg _ _ _ _ _ _ rfl) h8
          · rw [if_neg e5] at hpr
            subst hpr
            exact m_166_more hW hs hM h8 e5
        · rw [if_neg e4] at h8 hpr
          subst hpr
          exact m_166_bad hs hM h8
      · rw [if_neg z2] at hpr
        refine wp_t z1 ?_
        by_cases e5 : Dd.2 = (tT T).length
        · rw [if_pos e5] at hpr
          rw [e5] at h6
          subst hpr
          exact m_166_ok (ch := 0) (t := 0) hW hs hM hb (hrg _ _ _ _ _ _ rfl) h6
        · rw [if_neg e5] at hpr
          subst hpr
          exact m_166_more hW hs hM h6 e5
  unfold fX12_readRule
  refine wp_obe (m_noBox_ok _ rfl hb) (wp_t rfl (mW hs ?_))
  have h0 : RS T b fi fj ai aj ar 0 (up3 fi 12 27 0 0 12 28 0) (up3 fi 12 27 0 0 12 29 0) (up3 fi 12 27 0 0 12 30 0) (mk b (up3 fi 12 27 0 0) fj ai aj ar) := ⟨_, rfl, fun k h1 _ _ _ => up3_k h1, Nat.zero_le _, up3_s, rfl, rfl, rfl⟩
  refine (h0.wr hs).2.1 1 (Or.inr rfl) (fun u1 h1 => mo hs h1 (m_isAt hW hs hM _ h1) (fun y hy => ?_))
  rcases hy with ⟨y1, y2⟩ | ⟨y1, y2⟩
  · have hlt := txt_lt _ _ y2
    have e : prt (txt T) 0 = (15, 1) := by unfold prt; rw [if_pos y2]
    refine wp_f (by rw [y1]; decide) ((h1.rd hs).1 ?_)
    rw [nI_1]
    refine (h1.wr hs).1 1 hlt (fun u2 h2 => ?_)
    rw [e] at c49
    exact c49 h2
  · have e : prt (txt T) 0 = dgN (txt T) 0 4 := by unfold prt; rw [if_neg y2]
    refine wp_t y1 (mo2 hs h1 (m_readPorts hW hs hM h1) (fun y w hq => ?_))
    obtain ⟨q1, h2⟩ := hq
    dsimp only at q1 h2
    subst q1
    rw [e] at c49
    exact c49 h2
end
section PUB
variable {T : TS} {x m : UH} {x1 x2 x3 x4 x5 x6 : Int32}
theorem s_readRule (hR : RR T x m) : SIM T (fX11_readRule 0 x1 x) (fX12_readRule 0 x1 m) := by
  obtain ⟨hW, ⟨hs, hd, hP⟩, hms, hM⟩ := hR
  rcases ix x1 6 (by decide) with ⟨box, hb, rfl⟩ | hb
  · have hm := m_readRule (fj := uJ m) (aj := uAJ m) (ar := uAR m) hW hms hM hb
    have hx := x_isRule (aj := uAJ x) hs hW hP
    have hrg := fun ps c v o ch t (h : prs (tB T) (txt T) (tT T).length = .inr (ps, c, v, o, ch, t)) => prs_rg txt_lt h
    have h66 := (hW.2.2.1 box hb).1
    have hL := hP.2.2.2.2.1 box hb
    have hA := LA_box box hb
    generalize prs (tB T) (txt T) (tT T).length = r at hm hx hrg
    obtain ⟨⟨y, u⟩, e1, hx⟩ := hx
    cases r with
    | inl f =>
      obtain ⟨y1, e3, e4, e5, e6, e7, e8, hX⟩ := hx
      dsimp only at y1 hX
      refine sim (T' := T) (r := -100 - nI f) hW ?_ hm
      show wp (fX11_readRule 0 (nI box) (mk x (uI x) (uJ x) (uAI x) (uAJ x) (uAR x))) _
      unfold fX11_readRule
      refine wp_obe (x_isBox_ok _ rfl hb) (wp_f (by decide) (oR (hs.1 0 12 rfl) (hs.2.2 11 6 0 60 rfl) (oR (hs.1 0 12 rfl) (hs.2.2 11 0 0 1 rfl) (oi (hs.1 1 5 rfl) ?_))))
      rw [hP.2.1]
      refine wp_ob2 (wp_kd (hs.1 60 10 rfl) ⟨_, e1, wp_t y1 ?_⟩)
      obtain ⟨fi', rfl, g1, g2, q2, _⟩ := hX
      refine oR (hs.1 0 12 rfl) (hs.2.2 11 6 0 60 rfl) (oi (hs.1 60 10 rfl) (wp_some ⟨?_, XR_mk hs hd (hP.sc (fun c k a hc => g1 c k a (by omega)) xsJ.refl xsA.refl)⟩))
      rw [q2]
    | inr z =>
      obtain ⟨ps, c, v, o, ch, t⟩ := z
      have hr := hrg ps c v o ch t rfl
      obtain ⟨r1, r2, r3, r4, r5, r6, r7, r8, r9, r10⟩ := hr
      obtain ⟨y1, p, hX⟩ := hx
      dsimp only at y1 hX
      refine sim (T' := insT T box (tR T box).length (mkR ps c v o ch t 1)) (r := insV T box) (WF_ins hW hb (Nat.le_refl _) (RW_rd ⟨r1, r2, r3, r4, r5, r6, r7, r8, r9, r10⟩)) ?_ hm
      show wp (fX11_readRule 0 (nI box) (mk x (uI x) (uJ x) (uAI x) (uAJ x) (uAR x))) _
      unfold fX11_readRule
      refine wp_obe (x_isBox_ok _ rfl hb) (wp_f (by decide) (oR (hs.1 0 12 rfl) (hs.2.2 11 6 0 60 rfl) (oR (hs.1 0 12 rfl) (hs.2.2 11 0 0 1 rfl) (oi (hs.1 1 5 rfl) ?_))))
      rw [hP.2.1]
      refine wp_ob2 (wp_kd (hs.1 60 10 rfl) ⟨_, e1, wp_f (by dsimp only; rw [y1]; decide) ?_⟩)
      dsimp only
      obtain ⟨fi1, rfl, g1, g2, q2, q3, q4, q5, q6, q7, q8⟩ := hX
      have hP1 : XPic T x fi1 (uJ x) (uAI x) (uAR x) := hP.sc (fun c k a hc => g1 c k a (by omega)) xsJ.refl xsA.refl
      have hL1 := hP1.2.2.2.2.1 box hb
      refine oR (hs.1 0 12 rfl) (hs.2.2 11 0 0 1 rfl) (oR (hs.1 1 5 rfl) (hs.2.2 4 3 1 3 rfl) (oLR (hs.1 3 26 rfl) (hs.2.1 3 6 rfl) rfl hb (by decide) (hP1.1.1 box hb) (oi (hs.1 _ _ hA.1) (oR (hs.1 0 12 rfl) (hs.2.2 11 6 0 60 rfl) ?_))))
      rw [hL1.1]
      refine wp_ob2 (wp_kd (hs.1 60 10 rfl) ?_)
      unfold fX9_readOne
      have h92 := hd.2
      refine x_new hs hd (fun b' fi' fj' hs' hd' k1 k2 k3 k4 => ?_)
      have f9 : ∀ k, fi' 9 k 60 = fi1 9 k 60 := fun k => k3 9 k 60 (by omega)
      refine oi (hs'.1 60 10 rfl) (oi (hs'.1 60 10 rfl) (oi (hs'.1 60 10 rfl) (oi (hs'.1 60 10 rfl) (oi (hs'.1 60 10 rfl) (oi (hs'.1 60 10 rfl) ?_)))))
      rw [f9 3, f9 4, f9 5, f9 6, f9 7, f9 8, q3, q4, q5, q6, q7, q8]
      refine wp_obw (x_init k1 (p := ps) (c := c) (v := v) (o := o) (ch := ch) (t := t) (on := 1) rfl rfl rfl rfl rfl rfl rfl (lt32 hW.1 r3) (lt32 hW.1 r4) (Or.inr rfl)) (fun u hu => ?_)
      obtain ⟨fi2, fj2, rfl, a1, a2, a3⟩ := hu
      rw [r5, r9] at a1
      have hP' : XPic T b' fi2 fj2 (uAI x) (uAR x) := hP1.nw hW.2.2.2.2.2.1.1 hd.2 (xdom_new hd) k2 (fun c k a ha => by rw [a2 c k a ha, k3 c k a ha]) (fun c k a ha => by rw [a3 c k a ha, k4 c k a ha])
      refine wp_some ?_
      dsimp only
      refine oK2 (hs'.1 0 12 rfl) (x_insertRule hs' hd' hW hP' rfl hb rfl (Nat.le_refl _) a1) (fun y u hq => wp_some ?_)
      exact hq
  · refine sim (T' := T) (r := -1) hW ?_ ?_
    · show wp (fX11_readRule 0 x1 (mk x (uI x) (uJ x) (uAI x) (uAJ x) (uAR x))) _
      unfold fX11_readRule
      exact wp_obe (x_isBox_bad _ hb) (wp_t rfl (wp_some ⟨rfl, hs, hd, hP⟩))
    · show wp (fX12_readRule 0 x1 (mk m (uI m) (uJ m) (uAI m) (uAJ m) (uAR m))) _
      unfold fX12_readRule
      exact wp_obe (m_noBox_bad _ hb) (wp_f (by decide) (wp_some ⟨rfl, hms, hM⟩))
end PUB
