def mkR (a0 a1 a2 a3 a4 a5 a6 : Nat) : RT := fun k => match k with
  | 0 => a0 | 1 => a1 | 2 => a2 | 3 => a3 | 4 => a4 | 5 => a5 | 6 => a6 | _ => 0
theorem mkR_eq {g : Nat → Int32} {a0 a1 a2 a3 a4 a5 a6 : Nat} (h0 : g 0 = nI a0) (h1 : g 1 = nI a1) (h2 : g 2 = nI a2) (h3 : g 3 = nI a3) (h4 : g 4 = nI a4) (h5 : g 5 = nI a5) (h6 : g 6 = nI a6) : ∀ f, f < 7 → g f = nI (mkR a0 a1 a2 a3 a4 a5 a6 f) := by
  intro f hf
  rcases (show f = 0 ∨ f = 1 ∨ f = 2 ∨ f = 3 ∨ f = 4 ∨ f = 5 ∨ f = 6 by omega) with rfl | rfl | rfl | rfl | rfl | rfl | rfl
  · exact h0
  · exact h1
  · exact h2
  · exact h3
  · exact h4
  · exact h5
  · exact h6
section
variable {b : UH} {fi : Nat → Nat → Nat → Int32} {fj : Nat → Nat → Nat → Int64} {ai : Nat → Nat → Int32} {aj : Nat → Nat → Int64} {ar : Nat → Nat → Option Nat} {T : TS} {ra : Nat}
theorem x_init (hk : uKd b ra = 7) {x1 x2 x3 x4 x5 x6 x7 : Int32} {p c v o ch t on : Nat} (h1 : x1 = nI p) (h2 : x2 = nI c) (h3 : x3 = nI v) (h4 : x4 = nI o) (h5 : x5 = nI ch) (h6 : x6 = nI t) (h7 : x7 = nI on) (hc : c < 32) (hv : v < 32) (ho : on = 0 ∨ on = 1) : wp (fX6_init ra x1 x2 x3 x4 x5 x6 x7 (mk b fi fj ai aj ar)) (fun u => ∃ fi' fj', u = mk b fi' fj' ai aj ar ∧ RP b fi' fj' ra (mkR p c (v &&& c) o ch (t &&& ch) on) ∧ (∀ c k a, a ≠ ra → fi' c k a = fi c k a) ∧ ∀ c k a, a ≠ ra → fj' c k a = fj c k a) := by
  unfold fX6_init
  refine oW hk (oW hk (oW hk (oW hk (oW hk (oW hk (oWZ hk ?_ (wp_obw (x_cubeHeaders _ h2 h3 hc hv) (fun s es => oWJ hk (wp_some ⟨_, _, rfl, ⟨hk, ?_, ?_⟩, fun c k a ha => ?_, fun c k a ha => up3_a ha⟩)))))))))
  · rcases ho with rfl | rfl
    · exact Or.inl h7
    · exact Or.inr h7
  · refine mkR_eq ?_ ?_ ?_ ?_ ?_ ?_ ?_
    · rw [up3_k (by decide), up3_k (by decide), up3_k (by decide), up3_k (by decide), up3_k (by decide), up3_k (by decide), up3_s, h1]
    · rw [up3_k (by decide), up3_k (by decide), up3_k (by decide), up3_k (by decide), up3_k (by decide), up3_s, h2]
    · rw [up3_k (by decide), up3_k (by decide), up3_k (by decide), up3_k (by decide), up3_s, h3, h2, nx_and]
    · rw [up3_k (by decide), up3_k (by decide), up3_k (by decide), up3_s, h4]
    · rw [up3_k (by decide), up3_k (by decide), up3_s, h5]
    · rw [up3_k (by decide), up3_s, h6, h5, nx_and]
    · rw [up3_s, h7]
  · rw [up3_s]; exact es
  · rw [up3_a ha, up3_a ha, up3_a ha, up3_a ha, up3_a ha, up3_a ha, up3_a ha]
/-- a new object: nothing that is there changes -/
theorem XPic.nw {b' : UH} {fi' : Nat → Nat → Nat → Int32} {fj' : Nat → Nat → Nat → Int64} (h : XPic T b fi fj ai ar) (h8 : (tP T).length ≤ 8) (h92 : 92 ≤ ra) (hra : uKd b ra ≠ 7) (hk : ∀ a, a ≠ ra → uKd b' a = uKd b a) (h1 : ∀ c k a, a ≠ ra → fi' c k a = fi c k a) (h2 : ∀ c k a, a ≠ ra → fj' c k a = fj c k a) : XPic T b' fi' fj' ai ar := by
  obtain ⟨p1, p2, p3, p4, p5, ⟨p6, nx, p7, p8, p9⟩, ⟨p10, p11⟩, ⟨p12, p13⟩, p14, p15⟩ := h
  have hg : ∀ q, uKd b q = 7 → uKd b' q = 7 ∧ (∀ k, fi' 6 k q = fi 6 k q) ∧ ∀ k, fj' 6 k q = fj 6 k q := fun q hq => by
    have hne : q ≠ ra := fun e => hra (e ▸ hq)
    exact ⟨by rw [hk q hne]; exact hq, fun k => h1 _ _ _ hne, fun k => h2 _ _ _ hne⟩
  refine ⟨p1, (h1 _ _ _ (by omega)).trans p2, p3, (h1 _ _ _ (by omega)).trans p4, fun bx hbx => (p5 bx hbx).cg (h1 _ _ _ (by omega)) (fun _ _ => rfl) hg, ⟨(h1 _ _ _ (by omega)).trans p6, nx, p7, (h1 _ _ _ (by omega)).trans p8, p9.cg (fun j hj => h1 _ _ _ (by omega)) (fun _ _ _ _ => rfl) hg (fun _ _ => rfl)⟩, ⟨(h1 _ _ _ (by omega)).trans p10, by rw [h2 _ _ _ (by omega)]; exact p11⟩, ⟨(h1 _ _ _ (by omega)).trans p12, fun i p hp => ?_⟩, (h1 _ _ _ (by omega)).trans p14, p15⟩
  obtain ⟨q1, q2, q3, q4⟩ := p13 i p hp
  have hi : 65 + i ≠ ra := by
    have := (List.getElem?_eq_some_iff.mp hp).1
    omega
  exact ⟨(h1 _ _ _ hi).trans q1, (h1 _ _ _ hi).trans q2, (h1 _ _ _ hi).trans q3, by rw [h2 _ _ _ hi]; exact q4⟩
theorem xKd_lt {a t : Nat} (h : xKd a = some t) : a < 73 := (List.getElem?_eq_some_iff.mp h).1
theorem xRf_lt {c k a q : Nat} (h : xRf c k a = some q) : a < 73 := by
  unfold xRf at h
  split at h <;> first | omega | skip
  · split at h
    · omega
    · cases h
  · cases h
theorem xKd_nz {a t : Nat} (h : xKd a = some t) : t ≠ 0 := by
  have h1 := List.mem_of_getElem? h
  have h2 : ∀ x ∈ ([12, 5, 20, 26, 7, 8, 25, 8, 25, 8, 25, 8, 25, 8, 25, 8, 25, 4, 26, 20, 7, 8, 25, 8, 25, 8, 25, 8, 25, 8, 25, 8, 25, 8, 25, 8, 25, 8, 25, 8, 25, 8, 25, 8, 25, 3, 21, 21, 21, 2, 21, 11, 21, 1, 20, 21, 21, 20, 21, 21, 10, 22, 9, 22, 24, 6, 6, 6, 6, 6, 6, 6, 6] : List Nat), x ≠ 0 := by decide
  exact h2 t h1
theorem x_new (hs : xst b) (hd : xdom b) {β : Type} {K : Nat → UH → Option β} {P : β → Prop} (h : ∀ b' fi' fj', xst b' → xdom b' → uKd b' (uSz b) = 7 → (∀ a, a ≠ uSz b → uKd b' a = uKd b a) → (∀ c k a, a ≠ uSz b → fi' c k a = fi c k a) → (∀ c k a, a ≠ uSz b → fj' c k a = fj c k a) → wp (K (uSz b) (mk b' fi' fj' ai aj ar)) P) : wp (nwO (mk b fi fj ai aj ar) 6 K) P := by
  have h92 := hd.2
  refine h (uNew (mk b fi fj ai aj ar) 6) (uI (uNew (mk b fi fj ai aj ar) 6)) (uJ (uNew (mk b fi fj ai aj ar) 6)) ⟨fun a t ha => ?_, fun a n ha => ?_, fun c k a q hq => ?_⟩ ⟨fun a ha => ?_, ?_⟩ (if_pos rfl) (fun a ha => if_neg ha) (fun c k a ha => if_neg ha) (fun c k a ha => if_neg ha)
  · have := xKd_lt ha
    show (if a = uSz b then 7 else uKd b a) = t
    rw [if_neg (by omega)]; exact hs.1 a t ha
  · exact hs.2.1 a n ha
  · have := xRf_lt hq
    show (if a = uSz b then none else uR b c k a) = some q
    rw [if_neg (by omega)]; exact hs.2.2 c k a q hq
  · show a < uSz b + 1
    by_cases e : a = uSz b
    · omega
    · have h1 : uKd b a ≠ 0 := by
        have : (if a = uSz b then 7 else uKd b a) ≠ 0 := ha
        rwa [if_neg e] at this
      have := hd.1 a h1
      omega
  · show 92 ≤ uSz b + 1
    omega
theorem xdom_new (hd : xdom b) : uKd b (uSz b) ≠ 7 := fun h => absurd (hd.1 (uSz b) (by rw [h]; decide)) (Nat.lt_irrefl _)
end
