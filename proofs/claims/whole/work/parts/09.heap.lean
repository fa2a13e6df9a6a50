section VHEAP
variable {X : UX} {D : UD} {bs tw : Nat} {u0 u : UH} {R : Room} {nL cells slots : Nat} {Q : State → Prop} {cc : ByteArray} {own : String} {ret : Option FieldType} {pc : Nat} {L : List (Nat × Value)} {st : List Value}
def uFd (own : String) (index c k ft : Nat) (fin : Option Bool) (ty : FieldType) : Prop := ∃ (C : String) (T : u_T) (N : Nat) (ty0 : Nat → FieldType), vwCl[c]? = some (C, T, N) ∧ k < N ∧ uFT c k = ft ∧ (∀ w ∈ u_ws C T N, w ∈ lw_g) ∧ Cond.fieldLink own index (T k).1 (T k).2.1 (T k).2.2.1 ∈ lw_g ∧ (∀ k, k < N → parseFieldDescriptor (T k).2.2.1 = some (ty0 k)) ∧ (∀ a, a < N → ∀ b, b < N → a ≠ b → (T a).2.1 ≠ (T b).2.1) ∧ (∀ b, fin = some b → (T k).2.2.2 = b ∧ (b = true → (T k).1 = own)) ∧ ty0 k = ty ∧ c < 19
theorem v_get (C : uCx X D bs tw cc nL own ret) {index c k ft a : Nat} {fin : Option Bool} {ty : FieldType} {v : Value} (F : uFd own index c k ft fin ty) (hk : uKd u a = c + 1) (hv : uVal bs u c k a = v) (hdg : decode cc pc = .ok (.getfield index, 3)) (kk : VV X D bs u0 R nL cells slots Q u (pc + 3) L (v :: st)) : VV X D bs u0 R nL cells slots Q u pc L (.ref (bs + a) :: st) := by
  intro H locs ls hu hl
  obtain ⟨CC, T, N, ty0, hc, hkN, hft, hin, hlink, hty, hnm, hfin, hty1, hc19⟩ := F
  obtain ⟨r, h1, cell, q1, q2, q3, q4⟩ := hu.1.obj hk hc19
  have hr : r = (CC, T, N) := Option.some.inj (h1.symm.trans hc)
  subst hr
  obtain ⟨hS, hfc, kC, hkC, hkind⟩ := C.2.2.2.2.2.2.2.1.1 c _ hc
  obtain ⟨cf, kf, fi, f, hi, hsl⟩ := hS k hkN
  refine W.getf C.1 C.2.1 C.2.2.2.1 (C.2.2.2.2.1 _ hlink) hi (u_facts hfc hkC (u_lays C.2.2.2.2.1 hin hkN) hi).1 q1 (by rw [q3]; exact fun h => by cases h) (v := v) ?_ rfl rfl hdg (kk H locs ls hu hl)
  rw [hsl, q4 k hkN]
  exact congrArg some hv
theorem v_put (C : uCx X D bs tw cc nL own ret) {index c k ft a : Nat} {fin : Bool} {ty : FieldType} {v : Value} (F : uFd own index c k ft (some fin) ty) (hinit : fin = true → X.2.2.2.2.2.2.2.1.name = "<init>") (hk : uKd u a = c + 1) (hn : narrow ty v = v) (hfit : fits ty v = true) {u' : UH} (hk2 : uKd u' = uKd u) (hz : uSz u' = uSz u) (ho : ∀ b, b ≠ a → uSame u u' b) (hv2 : ∀ j, updV (fun k => uVal bs u c k a) k v j = uVal bs u' c j a) (hdg : decode cc pc = .ok (.putfield index, 3)) (kk : VV X D bs u0 R nL cells slots Q u' (pc + 3) L st) : VV X D bs u0 R nL cells slots Q u pc L (v :: .ref (bs + a) :: st) := by
  intro H locs ls hu hl
  obtain ⟨CC, T, N, ty0, hc, hkN, hft, hin, hlink, hty, hnm, hfin0, hty1, hc19⟩ := F
  obtain ⟨hfin, hdecl⟩ := hfin0 _ rfl
  have hK := C.2.2.2.2.2.2.2.1
  have hap := va_apart (own := own) C.2.2.2.2.1 hin ty0 hty hnm hK hc
  obtain ⟨r, h1, cell, q1, q2, q3, q4⟩ := hu.1.obj hk hc19
  have hr : r = (CC, T, N) := Option.some.inj (h1.symm.trans hc)
  subst hr
  obtain ⟨hS, hfc, kC, hkC, hkind⟩ := hK.1 c _ hc
  obtain ⟨cf, kf, fi, f, hi, hsl⟩ := hS k hkN
  have hlay := C.2.2.2.2.1 _ (hin _ (u_in_lay hkN))
  have hst := (u_facts hfc hkC (u_lays C.2.2.2.2.1 hin hkN) hi).1
  have hd : parseFieldDescriptor (T k).2.2.1 = some ty := by rw [hty k hkN, hty1]
  have fin_ : ∀ H1 : Heap, H1[bs + a]? = some (cell.setSlot f.slot v) → H1.size = H.size → (∀ q, q ≠ bs + a → H1[q]? = H[q]?) → uHX D bs u0 X.2.2.2.1 u' H1 (locs ++ [⟨bs + a, f.slot⟩]) := by
    intro H1 e1 e2 e3
    refine hu.upd (by rw [hk]; omega) hk2 hz ho e2 e3 ?_
    unfold uAt
    rw [hk2, hk, if_pos (by omega)]
    refine ⟨_, hc, ?_⟩
    rw [hsl] at e1
    exact t_OB.to (V := updV (fun k => uVal bs u c k a) k v) ⟨_, e1, q2, q3, t_set q4 hap hkN v⟩ (fun j _ => hv2 j)
  cases fin with
  | false =>
    unfold u_lay at hlay
    rw [if_neg (by rw [hfin]; decide)] at hlay
    have h6 := u_store hfc hkC hkind hlay hi hd hn hfit
    exact W.putK C.1 C.2.1 (f := f) ⟨C.2.2.2.1, C.2.2.2.2.1 _ hlink, ⟨_, _, _, hi⟩, hst⟩ (by rw [q2]; exact h6) q1 q3 (by rw [hsl]; exact k2_hasslot (q4 k hkN)) rfl rfl hdg fun H' e1 e2 e3 => kk H' _ ls (fin_ H' e1 e2 e3) hl
  | true =>
    unfold u_lay at hlay
    rw [if_pos hfin] at hlay
    have hcf : X.2.2.2.2.1.cls = cf := by
      obtain ⟨_, _, c', _, _, _, -, -, hf', -, -, -, hown2, -⟩ := Cond.laysFinal_spec hlay
      have e1 : c' = cf := by have := hi.symm.trans hf'; simp at this; exact this.1.symm
      rw [hdecl rfl] at hown2
      rw [← e1]; exact Option.some.inj (C.2.2.2.1.symm.trans hown2)
    have h6 := u_fits hfc hkC hkind (Or.inr hlay) hi hd hn hfit
    exact W.putFinK C.1 C.2.1 C.2.2.2.1 (C.2.2.2.2.1 _ hlink) hi hst hcf (hinit rfl) (by rw [q2]; exact h6) q1 q3 (by rw [hsl]; exact k2_hasslot (q4 k hkN)) rfl rfl hdg fun H' e1 e2 e3 => kk H' _ ls (fin_ H' e1 e2 e3) hl
theorem r_some {α : Type} {p : Prop} {i : Decidable p} {x y : α} (h : (if p then some x else none) = some y) : p ∧ x = y := by
  split at h
  · exact ⟨by assumption, Option.some.inj h⟩
  · cases h
theorem r_some' {α : Type} {p : Prop} {i : Decidable p} {x : Option α} {y : α} (h : (if p then x else none) = some y) : p ∧ x = some y := by
  split at h
  · exact ⟨by assumption, h⟩
  · cases h
theorem same_sI {u : UH} {c k a : Nat} {v : Int32} : ∀ b, b ≠ a → uSame u (sI u c k a v) b := fun b hb => ⟨rfl, rfl, fun c' k' => if_neg (fun h => hb h.2.2), fun _ _ => rfl, fun _ _ => rfl, rfl, rfl, rfl⟩
theorem same_sJ {u : UH} {c k a : Nat} {v : Int64} : ∀ b, b ≠ a → uSame u (sJ u c k a v) b := fun b hb => ⟨rfl, rfl, fun _ _ => rfl, fun c' k' => if_neg (fun h => hb h.2.2), fun _ _ => rfl, rfl, rfl, rfl⟩
theorem same_sR {u : UH} {c k a : Nat} {v : Option Nat} : ∀ b, b ≠ a → uSame u (sR u c k a v) b := fun b hb => ⟨rfl, rfl, fun _ _ => rfl, fun _ _ => rfl, fun c' k' => if_neg (fun h => hb h.2.2), rfl, rfl, rfl⟩
theorem same_sAI {u : UH} {a i : Nat} {v : Int32} : ∀ b, b ≠ a → uSame u (sAI u a i v) b := fun b hb => ⟨rfl, rfl, fun _ _ => rfl, fun _ _ => rfl, fun _ _ => rfl, funext fun j => if_neg (fun h => hb h.1), rfl, rfl⟩
theorem same_sAJ {u : UH} {a i : Nat} {v : Int64} : ∀ b, b ≠ a → uSame u (sAJ u a i v) b := fun b hb => ⟨rfl, rfl, fun _ _ => rfl, fun _ _ => rfl, fun _ _ => rfl, rfl, funext fun j => if_neg (fun h => hb h.1), rfl⟩
theorem same_sAR {u : UH} {a i : Nat} {v : Option Nat} : ∀ b, b ≠ a → uSame u (sAR u a i v) b := fun b hb => ⟨rfl, rfl, fun _ _ => rfl, fun _ _ => rfl, fun _ _ => rfl, rfl, rfl, funext fun j => if_neg (fun h => hb h.1)⟩
theorem val_sI {bs : Nat} {u : UH} {c k a : Nat} {v : Int32} (hft : uFT c k = 0) : ∀ j, updV (fun k => uVal bs u c k a) k (.int v) j = uVal bs (sI u c k a v) c j a := by
  intro j
  unfold updV uVal
  by_cases hj : j = k
  · subst hj; simp [hft, sI, up3, uI]
  · rw [if_neg hj]; simp [sI, up3, uI, uJ, uR, hj]
theorem val_sJ {bs : Nat} {u : UH} {c k a : Nat} {v : Int64} (hft : uFT c k = 1) : ∀ j, updV (fun k => uVal bs u c k a) k (.long v) j = uVal bs (sJ u c k a v) c j a := by
  intro j
  unfold updV uVal
  by_cases hj : j = k
  · subst hj; simp [hft, sJ, up3, uJ]
  · rw [if_neg hj]; simp [sJ, up3, uI, uJ, uR, hj]
theorem val_sR {bs : Nat} {u : UH} {c k a q : Nat} (hft : uFT c k = 2) : ∀ j, updV (fun k => uVal bs u c k a) k (.ref (bs + q)) j = uVal bs (sR u c k a (some q)) c j a := by
  intro j
  unfold updV uVal
  by_cases hj : j = k
  · subst hj; simp [hft, sR, up3, uR, va_rf]
  · rw [if_neg hj]; simp [sR, up3, uI, uJ, uR, hj]

theorem v_getI (C : uCx X D bs tw cc nL own ret) {E : Type} {e : E} {K : Int32 → Option E} {index c k a : Nat} {fin : Option Bool} {ty : FieldType} (F : uFd own index c k 0 fin ty) (hdg : decode cc pc = .ok (.getfield index, 3)) (h : ob (rI u c k a) K = some e) (kk : ∀ x, K x = some e → VV X D bs u0 R nL cells slots Q u (pc + 3) L (.int x :: st)) : VV X D bs u0 R nL cells slots Q u pc L (.ref (bs + a) :: st) := by
  obtain ⟨x, h1, h2⟩ := ob_some h
  obtain ⟨h3, h4⟩ := r_some h1
  refine v_get C F h3 ?_ hdg (kk x h2)
  obtain ⟨_, _, _, _, _, _, hft, _⟩ := F
  simp [uVal, hft, h4]
theorem v_getJ (C : uCx X D bs tw cc nL own ret) {E : Type} {e : E} {K : Int64 → Option E} {index c k a : Nat} {fin : Option Bool} {ty : FieldType} (F : uFd own index c k 1 fin ty) (hdg : decode cc pc = .ok (.getfield index, 3)) (h : ob (rJ u c k a) K = some e) (kk : ∀ x, K x = some e → VV X D bs u0 R nL cells slots Q u (pc + 3) L (.long x :: st)) : VV X D bs u0 R nL cells slots Q u pc L (.ref (bs + a) :: st) := by
  obtain ⟨x, h1, h2⟩ := ob_some h
  obtain ⟨h3, h4⟩ := r_some h1
  refine v_get C F h3 ?_ hdg (kk x h2)
  obtain ⟨_, _, _, _, _, _, hft, _⟩ := F
  simp [uVal, hft, h4]
theorem v_getR (C : uCx X D bs tw cc nL own ret) {E : Type} {e : E} {K : Nat → Option E} {index c k a : Nat} {fin : Option Bool} {ty : FieldType} (F : uFd own index c k 2 fin ty) (hdg : decode cc pc = .ok (.getfield index, 3)) (h : ob (rR u c k a) K = some e) (kk : ∀ x, K x = some e → VV X D bs u0 R nL cells slots Q u (pc + 3) L (.ref (bs + x) :: st)) : VV X D bs u0 R nL cells slots Q u pc L (.ref (bs + a) :: st) := by
  obtain ⟨x, h1, h2⟩ := ob_some h
  obtain ⟨h3, h4⟩ := r_some' h1
  refine v_get C F h3 ?_ hdg (kk x h2)
  obtain ⟨_, _, _, _, _, _, hft, _⟩ := F
  simp [uVal, hft, h4, va_rf]
theorem v_putI (C : uCx X D bs tw cc nL own ret) {E : Type} {e : E} {K : UH → Option E} {index c k a : Nat} {fin : Bool} {v : Int32} (F : uFd own index c k 0 (some fin) .int) (hinit : fin = true → X.2.2.2.2.2.2.2.1.name = "<init>") (hdg : decode cc pc = .ok (.putfield index, 3)) (h : ob (wI u c k a v) K = some e) (kk : ∀ u', K u' = some e → VV X D bs u0 R nL cells slots Q u' (pc + 3) L st) : VV X D bs u0 R nL cells slots Q u pc L (.int v :: .ref (bs + a) :: st) := by
  obtain ⟨x, h1, h2⟩ := ob_some h
  obtain ⟨h3, h4⟩ := r_some h1
  refine v_put C F hinit h3 rfl rfl (u' := x) (by rw [← h4]; rfl) (by rw [← h4]; rfl) (by rw [← h4]; exact same_sI) ?_ hdg (kk x h2)
  obtain ⟨_, _, _, _, _, _, hft, _⟩ := F
  rw [← h4]; exact val_sI hft
theorem v_putZ (C : uCx X D bs tw cc nL own ret) {E : Type} {e : E} {K : UH → Option E} {index c k a : Nat} {fin : Bool} {v : Int32} (F : uFd own index c k 0 (some fin) .boolean) (hinit : fin = true → X.2.2.2.2.2.2.2.1.name = "<init>") (hdg : decode cc pc = .ok (.putfield index, 3)) (h : ob (wZ u c k a v) K = some e) (kk : ∀ u', K u' = some e → VV X D bs u0 R nL cells slots Q u' (pc + 3) L st) : VV X D bs u0 R nL cells slots Q u pc L (.int v :: .ref (bs + a) :: st) := by
  obtain ⟨x, h1, h2⟩ := ob_some h
  obtain ⟨⟨h3, hz⟩, h4⟩ := r_some h1
  refine v_put C F hinit h3 (by rcases hz with rfl | rfl <;> rfl) (by rcases hz with rfl | rfl <;> rfl) (u' := x) (by rw [← h4]; rfl) (by rw [← h4]; rfl) (by rw [← h4]; exact same_sI) ?_ hdg (kk x h2)
  obtain ⟨_, _, _, _, _, _, hft, _⟩ := F
  rw [← h4]; exact val_sI hft
theorem v_putJ (C : uCx X D bs tw cc nL own ret) {E : Type} {e : E} {K : UH → Option E} {index c k a : Nat} {fin : Bool} {v : Int64} (F : uFd own index c k 1 (some fin) .long) (hinit : fin = true → X.2.2.2.2.2.2.2.1.name = "<init>") (hdg : decode cc pc = .ok (.putfield index, 3)) (h : ob (wJ u c k a v) K = some e) (kk : ∀ u', K u' = some e → VV X D bs u0 R nL cells slots Q u' (pc + 3) L st) : VV X D bs u0 R nL cells slots Q u pc L (.long v :: .ref (bs + a) :: st) := by
  obtain ⟨x, h1, h2⟩ := ob_some h
  obtain ⟨h3, h4⟩ := r_some h1
  refine v_put C F hinit h3 rfl rfl (u' := x) (by rw [← h4]; rfl) (by rw [← h4]; rfl) (by rw [← h4]; exact same_sJ) ?_ hdg (kk x h2)
  obtain ⟨_, _, _, _, _, _, hft, _⟩ := F
  rw [← h4]; exact val_sJ hft
theorem v_putR (C : uCx X D bs tw cc nL own ret) {E : Type} {e : E} {K : UH → Option E} {index c k a v : Nat} {fin : Bool} {ty : FieldType} (F : uFd own index c k 2 (some fin) ty) (hn : ∀ q, narrow ty (.ref q) = .ref q) (hf : ∀ q, fits ty (.ref q) = true) (hinit : fin = true → X.2.2.2.2.2.2.2.1.name = "<init>") (hdg : decode cc pc = .ok (.putfield index, 3)) (h : ob (wR u c k a v) K = some e) (kk : ∀ u', K u' = some e → VV X D bs u0 R nL cells slots Q u' (pc + 3) L st) : VV X D bs u0 R nL cells slots Q u pc L (.ref (bs + v) :: .ref (bs + a) :: st) := by
  obtain ⟨x, h1, h2⟩ := ob_some h
  obtain ⟨h3, h4⟩ := r_some h1
  refine v_put C F hinit h3 (hn _) (hf _) (u' := x) (by rw [← h4]; rfl) (by rw [← h4]; rfl) (by rw [← h4]; exact same_sR) ?_ hdg (kk x h2)
  obtain ⟨_, _, _, _, _, _, hft, _⟩ := F
  rw [← h4]; exact val_sR hft
theorem cel_i {D : UD} {bs : Nat} {u : UH} {a t : Nat} (h : uKd u a = t) (h1 : t ≠ 21) (h2 : t < 24) : uCel D bs u a = arrV (D.2 t) (uLn u a) (fun j => .int (uAI u a j)) := by
  unfold uCel; rw [h, if_neg h1, if_neg (by omega)]
theorem cel_j {D : UD} {bs : Nat} {u : UH} {a : Nat} (h : uKd u a = 21) : uCel D bs u a = arrV (D.2 21) (uLn u a) (fun j => .long (uAJ u a j)) := by
  unfold uCel; rw [if_pos h]
theorem cel_r {D : UD} {bs : Nat} {u : UH} {a t : Nat} (h : uKd u a = t) (h1 : 24 ≤ t) : uCel D bs u a = arrV (D.2 t) (uLn u a) (fun j => va_rf ((uAR u a j).map (fun q => bs + q))) := by
  unfold uCel; rw [h, if_neg (by omega), if_pos h1]
theorem v_ldI (C : uCx X D bs tw cc nL own ret) {E : Type} {e : E} {K : Int32 → Option E} {a : Nat} {i : Int32} (hdg : decode cc pc = .ok (.iaload, 1)) (h : ob (ldI u 20 a i) K = some e) (kk : ∀ x, K x = some e → VV X D bs u0 R nL cells slots Q u (pc + 1) L (.int x :: st)) : VV X D bs u0 R nL cells slots Q u pc L (.int i :: .ref (bs + a) :: st) := by
  obtain ⟨x, h1, h2⟩ := ob_some h
  obtain ⟨⟨h3, h5⟩, h4⟩ := r_some h1
  intro H locs ls hu hl
  have hcel := hu.1.arr (a := a) (by omega)
  rw [cel_i h3 (by decide) (by decide)] at hcel
  exact W.iald (v := .int x) C.1 C.2.1 hcel ((C.2.2.2.2.2.2.2.1.2 0 _ rfl).1 _ _) (fun q => by cases q) (by rw [arrV_size]; exact h5) (by rw [arrV_read _ _ (Nat.not_le.mp fun q => h5 (Or.inr q)), h4]) rfl rfl hdg (kk x h2 H locs ls hu hl)
theorem v_ldC (C : uCx X D bs tw cc nL own ret) {E : Type} {e : E} {K : Int32 → Option E} {a : Nat} {i : Int32} (hdg : decode cc pc = .ok (.caload, 1)) (h : ob (ldI u 22 a i) K = some e) (kk : ∀ x, K x = some e → VV X D bs u0 R nL cells slots Q u (pc + 1) L (.int x :: st)) : VV X D bs u0 R nL cells slots Q u pc L (.int i :: .ref (bs + a) :: st) := by
  obtain ⟨x, h1, h2⟩ := ob_some h
  obtain ⟨⟨h3, h5⟩, h4⟩ := r_some h1
  intro H locs ls hu hl
  have hcel := hu.1.arr (a := a) (by omega)
  rw [cel_i h3 (by decide) (by decide)] at hcel
  exact W.cald (v := .int x) C.1 C.2.1 hcel ((C.2.2.2.2.2.2.2.1.2 2 _ rfl).1 _ _) (fun q => by cases q) (by rw [arrV_size]; exact h5) (by rw [arrV_read _ _ (Nat.not_le.mp fun q => h5 (Or.inr q)), h4]) rfl rfl hdg (kk x h2 H locs ls hu hl)
theorem v_ldZ (C : uCx X D bs tw cc nL own ret) {E : Type} {e : E} {K : Int32 → Option E} {a : Nat} {i : Int32} (hdg : decode cc pc = .ok (.baload, 1)) (h : ob (ldI u 23 a i) K = some e) (kk : ∀ x, K x = some e → VV X D bs u0 R nL cells slots Q u (pc + 1) L (.int x :: st)) : VV X D bs u0 R nL cells slots Q u pc L (.int i :: .ref (bs + a) :: st) := by
  obtain ⟨x, h1, h2⟩ := ob_some h
  obtain ⟨⟨h3, h5⟩, h4⟩ := r_some h1
  intro H locs ls hu hl
  have hcel := hu.1.arr (a := a) (by omega)
  rw [cel_i h3 (by decide) (by decide)] at hcel
  exact W.zald (v := .int x) C.1 C.2.1 hcel ((C.2.2.2.2.2.2.2.1.2 3 _ rfl).1 _ _) (fun q => by cases q) (by rw [arrV_size]; exact h5) (by rw [arrV_read _ _ (Nat.not_le.mp fun q => h5 (Or.inr q)), h4]) rfl rfl hdg (kk x h2 H locs ls hu hl)
theorem v_ldJ (C : uCx X D bs tw cc nL own ret) {E : Type} {e : E} {K : Int64 → Option E} {a : Nat} {i : Int32} (hdg : decode cc pc = .ok (.laload, 1)) (h : ob (ldJ u a i) K = some e) (kk : ∀ x, K x = some e → VV X D bs u0 R nL cells slots Q u (pc + 1) L (.long x :: st)) : VV X D bs u0 R nL cells slots Q u pc L (.int i :: .ref (bs + a) :: st) := by
  obtain ⟨x, h1, h2⟩ := ob_some h
  obtain ⟨⟨h3, h5⟩, h4⟩ := r_some h1
  intro H locs ls hu hl
  have hcel := hu.1.arr (a := a) (by omega)
  rw [cel_j h3] at hcel
  exact W.lald (v := .long x) C.1 C.2.1 hcel ((C.2.2.2.2.2.2.2.1.2 1 _ rfl).1 _ _) (fun q => by cases q) (by rw [arrV_size]; exact h5) (by rw [arrV_read _ _ (Nat.not_le.mp fun q => h5 (Or.inr q)), h4]) rfl rfl hdg (kk x h2 H locs ls hu hl)
theorem v_ldR (C : uCx X D bs tw cc nL own ret) {E : Type} {e : E} {K : Nat → Option E} {a : Nat} {i : Int32} (t : Nat) (CN : String) (ht : (uTys D)[t - 20]? = some (D.2 t, .object CN)) (h24 : 24 ≤ t) (hdg : decode cc pc = .ok (.aaload, 1)) (h : ob (ldR u t a i) K = some e) (kk : ∀ x, K x = some e → VV X D bs u0 R nL cells slots Q u (pc + 1) L (.ref (bs + x) :: st)) : VV X D bs u0 R nL cells slots Q u pc L (.int i :: .ref (bs + a) :: st) := by
  obtain ⟨x, h1, h2⟩ := ob_some h
  obtain ⟨⟨h3, h5⟩, h4⟩ := r_some' h1
  intro H locs ls hu hl
  have hcel := hu.1.arr (a := a) (by omega)
  rw [cel_r h3 h24] at hcel
  exact W.aald (v := .ref (bs + x)) (ty := .object CN) C.1 C.2.1 hcel ((C.2.2.2.2.2.2.2.1.2 (t - 20) _ ht).1 _ _) rfl (fun q => by cases q) (by rw [arrV_size]; exact h5) (by rw [arrV_read _ _ (Nat.not_le.mp fun q => h5 (Or.inr q)), h4]; rfl) rfl rfl hdg (kk x h2 H locs ls hu hl)
theorem v_len (C : uCx X D bs tw cc nL own ret) {E : Type} {e : E} {K : Int32 → Option E} {a : Nat} (t : Nat) (ty : FieldType) (ht : (uTys D)[t - 20]? = some (D.2 t, ty)) (h20 : 20 ≤ t) (hdg : decode cc pc = .ok (.arraylength, 1)) (h : ob (lnA u t a) K = some e) (kk : ∀ x, K x = some e → VV X D bs u0 R nL cells slots Q u (pc + 1) L (.int x :: st)) : VV X D bs u0 R nL cells slots Q u pc L (.ref (bs + a) :: st) := by
  obtain ⟨x, h1, h2⟩ := ob_some h
  obtain ⟨h3, h4⟩ := r_some h1
  intro H locs ls hu hl
  have hcel := hu.1.arr (a := a) (by omega)
  have hA := (C.2.2.2.2.2.2.2.1.2 (t - 20) _ ht).1
  by_cases e1 : t = 21
  · subst e1
    rw [cel_j h3] at hcel
    exact W.alen C.1 C.2.1 hcel (hA _ _) (by rw [arrV_size]; exact h4) rfl rfl hdg (kk x h2 H locs ls hu hl)
  · by_cases e2 : t < 24
    · rw [cel_i h3 e1 e2] at hcel
      exact W.alen C.1 C.2.1 hcel (hA _ _) (by rw [arrV_size]; exact h4) rfl rfl hdg (kk x h2 H locs ls hu hl)
    · rw [cel_r h3 (by omega)] at hcel
      exact W.alen C.1 C.2.1 hcel (hA _ _) (by rw [arrV_size]; exact h4) rfl rfl hdg (kk x h2 H locs ls hu hl)
theorem v_stI (C : uCx X D bs tw cc nL own ret) {E : Type} {e : E} {K : UH → Option E} {a : Nat} {i v : Int32} (hdg : decode cc pc = .ok (.iastore, 1)) (h : ob (stI u a i v) K = some e) (kk : ∀ u', K u' = some e → VV X D bs u0 R nL cells slots Q u' (pc + 1) L st) : VV X D bs u0 R nL cells slots Q u pc L (.int v :: .int i :: .ref (bs + a) :: st) := by
  obtain ⟨x, h1, h2⟩ := ob_some h
  obtain ⟨⟨h3, h5⟩, h4⟩ := r_some h1
  intro H locs ls hu hl
  have hcel := hu.1.arr (a := a) (by omega)
  rw [cel_i h3 (by decide) (by decide)] at hcel
  refine W.iast C.1 C.2.1 hcel ((C.2.2.2.2.2.2.2.1.2 0 _ rfl).1 _ _) (fun q => by cases q) (by rw [arrV_size]; exact h5) rfl rfl hdg fun H1 e1 z oq => ?_
  have hkx : uKd x = uKd u := by rw [← h4]; rfl
  refine kk x h2 H1 _ ls (hu.upd (by omega) hkx (by rw [← h4]; rfl) (by rw [← h4]; exact same_sAI) z oq ?_) hl
  unfold uAt
  rw [hkx, h3, if_neg (by decide), e1, arrV_store, cel_i (t := 20) (by rw [hkx, h3]) (by decide) (by decide)]
  subst h4
  congr 2
  funext q
  by_cases hq : q = i.toNatClampNeg
  · subst hq; simp [updV, sAI, uAI, up2]
  · simp [updV, sAI, uAI, up2, hq]
theorem v_stC (C : uCx X D bs tw cc nL own ret) {E : Type} {e : E} {K : UH → Option E} {a : Nat} {i v : Int32} (hdg : decode cc pc = .ok (.castore, 1)) (h : ob (stC u a i v) K = some e) (kk : ∀ u', K u' = some e → VV X D bs u0 R nL cells slots Q u' (pc + 1) L st) : VV X D bs u0 R nL cells slots Q u pc L (.int v :: .int i :: .ref (bs + a) :: st) := by
  obtain ⟨x, h1, h2⟩ := ob_some h
  obtain ⟨⟨h3, h5⟩, h4⟩ := r_some h1
  intro H locs ls hu hl
  have hcel := hu.1.arr (a := a) (by omega)
  rw [cel_i h3 (by decide) (by decide)] at hcel
  refine W.cast C.1 C.2.1 hcel ((C.2.2.2.2.2.2.2.1.2 2 _ rfl).1 _ _) (fun q => by cases q) (by rw [arrV_size]; exact h5) rfl rfl hdg fun H1 e1 z oq => ?_
  have hkx : uKd x = uKd u := by rw [← h4]; rfl
  refine kk x h2 H1 _ ls (hu.upd (by omega) hkx (by rw [← h4]; rfl) (by rw [← h4]; exact same_sAI) z oq ?_) hl
  unfold uAt
  rw [hkx, h3, if_neg (by decide), e1, arrV_store, cel_i (t := 22) (by rw [hkx, h3]) (by decide) (by decide)]
  subst h4
  congr 2
  funext q
  by_cases hq : q = i.toNatClampNeg
  · subst hq; simp [updV, sAI, uAI, up2, vp_nar, narrow]
  · simp [updV, sAI, uAI, up2, hq]
theorem v_stZ (C : uCx X D bs tw cc nL own ret) {E : Type} {e : E} {K : UH → Option E} {a : Nat} {i v : Int32} (hdg : decode cc pc = .ok (.bastore, 1)) (h : ob (stZ u a i v) K = some e) (kk : ∀ u', K u' = some e → VV X D bs u0 R nL cells slots Q u' (pc + 1) L st) : VV X D bs u0 R nL cells slots Q u pc L (.int v :: .int i :: .ref (bs + a) :: st) := by
  obtain ⟨x, h1, h2⟩ := ob_some h
  obtain ⟨⟨h3, h5⟩, h4⟩ := r_some h1
  intro H locs ls hu hl
  have hcel := hu.1.arr (a := a) (by omega)
  rw [cel_i h3 (by decide) (by decide)] at hcel
  refine W.zast C.1 C.2.1 hcel ((C.2.2.2.2.2.2.2.1.2 3 _ rfl).1 _ _) (fun q => by cases q) (by rw [arrV_size]; exact h5) rfl rfl hdg fun H1 e1 z oq => ?_
  have hkx : uKd x = uKd u := by rw [← h4]; rfl
  refine kk x h2 H1 _ ls (hu.upd (by omega) hkx (by rw [← h4]; rfl) (by rw [← h4]; exact same_sAI) z oq ?_) hl
  unfold uAt
  rw [hkx, h3, if_neg (by decide), e1, arrV_store, cel_i (t := 23) (by rw [hkx, h3]) (by decide) (by decide)]
  subst h4
  congr 2
  funext q
  by_cases hq : q = i.toNatClampNeg
  · subst hq; simp [updV, sAI, uAI, up2, vp_nar, narrow]
  · simp [updV, sAI, uAI, up2, hq]
theorem v_stJ (C : uCx X D bs tw cc nL own ret) {E : Type} {e : E} {K : UH → Option E} {a : Nat} {i : Int32} {v : Int64} (hdg : decode cc pc = .ok (.lastore, 1)) (h : ob (stJ u a i v) K = some e) (kk : ∀ u', K u' = some e → VV X D bs u0 R nL cells slots Q u' (pc + 1) L st) : VV X D bs u0 R nL cells slots Q u pc L (.long v :: .int i :: .ref (bs + a) :: st) := by
  obtain ⟨x, h1, h2⟩ := ob_some h
  obtain ⟨⟨h3, h5⟩, h4⟩ := r_some h1
  intro H locs ls hu hl
  have hcel := hu.1.arr (a := a) (by omega)
  rw [cel_j h3] at hcel
  refine W.last C.1 C.2.1 hcel ((C.2.2.2.2.2.2.2.1.2 1 _ rfl).1 _ _) (fun q => by cases q) (by rw [arrV_size]; exact h5) rfl rfl hdg fun H1 e1 z oq => ?_
  have hkx : uKd x = uKd u := by rw [← h4]; rfl
  refine kk x h2 H1 _ ls (hu.upd (by omega) hkx (by rw [← h4]; rfl) (by rw [← h4]; exact same_sAJ) z oq ?_) hl
  unfold uAt
  rw [hkx, h3, if_neg (by decide), e1, arrV_store, cel_j (by rw [hkx, h3])]
  subst h4
  congr 2
  funext q
  by_cases hq : q = i.toNatClampNeg
  · subst hq; simp [updV, sAJ, uAJ, up2]
  · simp [updV, sAJ, uAJ, up2, hq]
theorem v_stR (C : uCx X D bs tw cc nL own ret) {E : Type} {e : E} {K : UH → Option E} {a v : Nat} {i : Int32} (t cv : Nat) (r : vw_C) (ht : (uTys D)[t - 20]? = some (D.2 t, .object r.1)) (hcr : vwCl[cv]? = some r) (h19 : cv < 19) (h24 : 24 ≤ t) (hdg : decode cc pc = .ok (.aastore, 1)) (h : ob (stR u t cv a i v) K = some e) (kk : ∀ u', K u' = some e → VV X D bs u0 R nL cells slots Q u' (pc + 1) L st) : VV X D bs u0 R nL cells slots Q u pc L (.ref (bs + v) :: .int i :: .ref (bs + a) :: st) := by
  obtain ⟨x, h1, h2⟩ := ob_some h
  obtain ⟨⟨h3, h5, h6⟩, h4⟩ := r_some h1
  intro H locs ls hu hl
  have hcel := hu.1.arr (a := a) (by omega)
  rw [cel_r h3 h24] at hcel
  have hK := C.2.2.2.2.2.2.2.1
  obtain ⟨r', hr', cellV, g1, g2, g3, -⟩ := hu.1.obj h6 h19
  have hcls := (hK.1 cv r hcr).2
  obtain ⟨kA, comp, k1, k2, k3, -⟩ := (hK.2 (t - 20) _ ht).2
  have hcomp : comp = D.1.1 cv := Option.some.inj (k3.symm.trans hcls.1)
  subst hcomp
  obtain ⟨kC, hkC, hkk⟩ := hcls.2
  refine W.aast C.1 C.2.1 hcel (fun q h => by cases h) (fun h => by cases h) k1 k2 rfl hkC ⟨fun q => h5 (Or.inl q), by rw [arrV_size]; exact Nat.not_le.mp fun q => h5 (Or.inr q)⟩ g1 (fun q h => by rw [g3] at h; cases h) (by rw [g2]; exact hkC) (by rw [g2]; exact va_assign hcls) rfl rfl hdg fun H1 e1 z oq => ?_
  have hkx : uKd x = uKd u := by rw [← h4]; rfl
  refine kk x h2 H1 _ ls (hu.upd (by omega) hkx (by rw [← h4]; rfl) (by rw [← h4]; exact same_sAR) z oq ?_) hl
  unfold uAt
  rw [hkx, h3, if_neg (by omega), e1, arrV_store, cel_r (t := t) (by rw [hkx, h3]) h24]
  subst h4
  congr 2
  funext q
  by_cases hq : q = i.toNatClampNeg
  · subst hq; simp [updV, sAR, uAR, up2, va_rf]
  · simp [updV, sAR, uAR, up2, hq]
theorem v_gets (C : uCx X D bs tw cc nL own ret) {index : Nat} (hlink : Cond.fieldLink own index RX11 "WITH_BIT" "[J" ∈ lw_g) (hdg : decode cc pc = .ok (.getstatic index, 3)) (kk : VV X D bs u0 R nL cells slots Q u (pc + 3) L (.ref tw :: st)) : VV X D bs u0 R nL cells slots Q u pc L st := fun H locs ls hu hl => va_gets C.1 C.2.1 (C.2.2.2.2.2.2.2.2.1.1.narrow (fun q h => uA.base h)) hu.2.1 C.2.2.2.1 (C.2.2.2.2.1 _ hlink) (fun _ h => h) hdg (kk H locs ls hu hl)
theorem v_getsN (C : uCx X D bs tw cc nL own ret) {index : Nat} {host : String} (hlink : Cond.fieldLinkNest own index RX11 "WITH_BIT" "[J" host ∈ lw_n) (hdg : decode cc pc = .ok (.getstatic index, 3)) (kk : VV X D bs u0 R nL cells slots Q u (pc + 3) L (.ref tw :: st)) : VV X D bs u0 R nL cells slots Q u pc L st := fun H locs ls hu hl => va_getsN C.1 C.2.1 (C.2.2.2.2.2.2.2.2.1.1.narrow (fun q h => uA.base h)) hu.2.1 C.2.2.2.1 (va_Nw.use rfl (C.2.2.2.2.2.2.2.2.2 _ hlink)) (fun _ h => h) hdg (kk H locs ls hu hl)
theorem v_wb (C : uCx X D bs tw cc nL own ret) {E : Type} {e : E} {K : Int64 → Option E} {i : Int32} (hdg : decode cc pc = .ok (.laload, 1)) (h : ob (rWB i) K = some e) (kk : ∀ x, K x = some e → VV X D bs u0 R nL cells slots Q u (pc + 1) L (.long x :: st)) : VV X D bs u0 R nL cells slots Q u pc L (.int i :: .ref tw :: st) := by
  obtain ⟨x, h1, h2⟩ := ob_some h
  obtain ⟨h3, h4⟩ := r_some h1
  exact fun H locs ls hu hl => va_tl C.1 C.2.1 (C.2.2.2.2.2.2.2.2.1.2.narrow (fun q h => uA.base h)) hu.2.1 h3 (by rw [h4]) hdg (kk x h2 H locs ls hu hl)
def uDf (c j : Nat) : Value := match uFT c j with
  | 0 => .int 0
  | 1 => .long 0
  | _ => .null
def uCd (own : String) (index c N : Nat) : Prop := ∃ (C : String) (T : u_T) (ty0 : Nat → FieldType), vwCl[c]? = some (C, T, N) ∧ (∀ w ∈ u_ws C T N, w ∈ lw_g) ∧ (∀ k, k < N → parseFieldDescriptor (T k).2.2.1 = some (ty0 k)) ∧ (∀ j, j < N → defaultValue (ty0 j) = uDf c j) ∧ Cond.classLink own index C ∈ lw_g ∧ Cond.instantiable C N ∈ lw_g ∧ Cond.initialized C ∈ lw_g ∧ c < 19
def nwO {E : Type} (u : UH) (c : Nat) (K : Nat → UH → Option E) : Option E := K (uSz u) (uNew u c)
def nwA {E : Type} (u : UH) (t n : Nat) (K : Nat → UH → Option E) : Option E := K (uSz u) (uNewA u t n)
theorem same_new {u : UH} {c : Nat} : ∀ b, b ≠ uSz u → uSame u (uNew u c) b := fun b hb => ⟨if_neg hb, rfl, fun _ _ => if_neg hb, fun _ _ => if_neg hb, fun _ _ => if_neg hb, rfl, rfl, rfl⟩
theorem same_newA {u : UH} {t n : Nat} : ∀ b, b ≠ uSz u → uSame u (uNewA u t n) b := fun b hb => ⟨if_neg hb, if_neg hb, fun _ _ => rfl, fun _ _ => rfl, fun _ _ => rfl, if_neg hb, if_neg hb, if_neg hb⟩
theorem v_new (C : uCx X D bs tw cc nL own ret) {E : Type} {e : E} {K : Nat → UH → Option E} {index c N : Nat} (F : uCd own index c N) (hcells : cells + 1 ≤ R.cells) (hslots : slots + N ≤ R.slots) (hdg : decode cc pc = .ok (.new index, 3)) (h : nwO u c K = some e) (kk : ∀ a u', K a u' = some e → VV X D bs u0 R nL (cells + 1) (slots + N) Q u' (pc + 3) L (.ref (bs + a) :: st)) : VV X D bs u0 R nL cells slots Q u pc L st := by
  intro H locs ls hu hl
  obtain ⟨CC, T, ty0, hc, hin, hty, hdf, h1, h2, h3, h19⟩ := F
  have hts := C.2.2.2.2.1
  have hKn := C.2.2.2.2.2.2.2.1.1 c _ hc
  refine W.newcK C.1 C.2.1 C.2.2.2.1 (hts _ h1) (hts _ h2) (hts _ h3) rfl hdg hcells hslots hKn.2.1 hu.1.1.symm fun H1 kC hkC e1 z1 o1 => ?_
  refine kk (uSz u) (uNew u c) h H1 locs ls (hu.push rfl same_new (by rw [z1, hu.1.1]) (fun q hq => o1 q (by rw [hu.1.1]; exact hq)) ?_) hl
  unfold uAt
  have hk : uKd (uNew u c) (uSz u) = c + 1 := if_pos rfl
  rw [hk, if_pos (by omega)]
  refine ⟨_, hc, (u_born ty0 hts hin hKn hkC e1 hty).to (fun j hj => ?_)⟩
  rw [hdf j hj]
  show uDf c j = uVal bs (uNew u c) c j (uSz u)
  have key : ∀ n : Nat, (match n with | 0 => Value.int 0 | 1 => Value.long 0 | _ => Value.null) = (match n with | 0 => Value.int (uI (uNew u c) c j (uSz u)) | 1 => Value.long (uJ (uNew u c) c j (uSz u)) | _ => va_rf ((uR (uNew u c) c j (uSz u)).map (fun q => bs + q))) := by
    intro n
    match n with
    | 0 => simp [uNew, uI]
    | 1 => simp [uNew, uJ]
    | n + 2 => simp [uNew, uR, va_rf]
  exact key _
theorem v_newaP (C : uCx X D bs tw cc nL own ret) {E : Type} {e : E} {K : Nat → UH → Option E} {atype : ArrayType} {n : Int32} (t N : Nat) (hty : (uTys D)[t - 20]? = some (D.2 t, newarray.typeOf atype)) (hin : Cond.arrayClass (newarray.typeOf atype) ∈ lw_g) (hdf : t = 21 ∧ defaultValue (newarray.typeOf atype) = .long 0 ∨ t ≠ 21 ∧ t < 24 ∧ defaultValue (newarray.typeOf atype) = .int 0) (h20 : 20 ≤ t) (hnm : ∀ t', (∃ cA, va_RA X.2.2.2.1 cA t' ∧ t' = newarray.typeOf atype) → ∀ cA, va_RA X.2.2.2.1 cA t' → X.2.2.2.1.vm.findClass ("[" ++ t'.toString) = some cA) (hn : ¬ n < 0) (hN : n.toNatClampNeg = N) (hbytes : N * componentBytes (newarray.typeOf atype) ≤ 536870912) (hcells : cells + 1 ≤ R.cells) (hslots : slots + N ≤ R.slots) (hdg : decode cc pc = .ok (.newarray atype, 2)) (h : nwA u t N K = some e) (kk : ∀ a u', K a u' = some e → VV X D bs u0 R nL (cells + 1) (slots + N) Q u' (pc + 2) L (.ref (bs + a) :: st)) : VV X D bs u0 R nL cells slots Q u pc L (.int n :: st) := by
  intro H locs ls hu hl
  have hts := C.2.2.2.2.1
  obtain ⟨hA1, hA2⟩ := C.2.2.2.2.2.2.2.1.2 (t - 20) _ hty
  refine va_newaK C.1 C.2.1 (hts _ hin) rfl hdg rfl hn hN hbytes hcells hslots hu.1.1.symm fun H1 cA e1 z1 o1 hAr hNm => ?_
  have hcA : cA = D.2 t := by
    have h7 := hnm _ ⟨_, hA2, rfl⟩ _ hA2
    exact Option.some.inj (hNm.symm.trans h7)
  subst hcA
  refine kk (uSz u) (uNewA u t N) h H1 locs ls (hu.push rfl same_newA (by rw [z1, hu.1.1]) (fun q hq => o1 q (by rw [hu.1.1]; exact hq)) ?_) hl
  unfold uAt
  have hk : uKd (uNewA u t N) (uSz u) = t := if_pos rfl
  have hl2 : uLn (uNewA u t N) (uSz u) = N := if_pos rfl
  rw [hk, if_neg (by omega), e1]
  rcases hdf with ⟨h8, h9⟩ | ⟨h8, h9, h10⟩
  · rw [cel_j (by rw [hk, h8]), hl2, h9, h8]
    simp [uNewA, uAJ]
  · rw [cel_i hk h8 h9, hl2, h10]
    simp [uNewA, uAI]
theorem v_anew (C : uCx X D bs tw cc nL own ret) {E : Type} {e : E} {K : Nat → UH → Option E} {index : Nat} {CN : String} {n : Int32} (t N : Nat) (hty : (uTys D)[t - 20]? = some (D.2 t, .object CN)) (h24 : 24 ≤ t) (h1 : Cond.classLink own index CN ∈ lw_g) (h2 : Cond.arrayOver (.object CN) ∈ lw_n) (hn : ¬ n < 0) (hN : n.toNatClampNeg = N) (hbytes : N * 4 ≤ 536870912) (hcells : cells + 1 ≤ R.cells) (hslots : slots + N ≤ R.slots) (hdg : decode cc pc = .ok (.anewarray index, 3)) (h : nwA u t N K = some e) (kk : ∀ a u', K a u' = some e → VV X D bs u0 R nL (cells + 1) (slots + N) Q u' (pc + 3) L (.ref (bs + a) :: st)) : VV X D bs u0 R nL cells slots Q u pc L (.int n :: st) := by
  intro H locs ls hu hl
  have hts := C.2.2.2.2.1
  obtain ⟨hA1, kA, comp, hA2, hA3, hA4, hA5⟩ := C.2.2.2.2.2.2.2.1.2 (t - 20) _ hty
  subst hN
  refine W.anew C.1 C.2.1 C.2.2.2.1 (hts _ h1) (va_AO.use (C.2.2.2.2.2.2.2.2.2 _ h2)) rfl hdg rfl hn hbytes hcells hslots fun cA kA' comp' g1 g2 g3 g4 => ?_
  have hcA : cA = D.2 t := Option.some.inj (g1.symm.trans hA5)
  subst hcA
  have e0 := hu.1.1
  rw [← e0]
  refine kk (uSz u) (uNewA u t _) h _ locs ls (hu.push rfl same_newA (by simp) (fun q hq => by rw [Array.getElem?_push, if_neg (Nat.ne_of_lt hq)]) ?_) hl
  unfold uAt
  have hk : uKd (uNewA u t n.toNatClampNeg) (uSz u) = t := if_pos rfl
  have hl2 : uLn (uNewA u t n.toNatClampNeg) (uSz u) = n.toNatClampNeg := if_pos rfl
  rw [hk, if_neg (by omega), cel_r hk h24, hl2, arrV_new, e0]
  simp [uNewA, uAR, va_rf]
end VHEAP
