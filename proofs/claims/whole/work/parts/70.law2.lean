/-! two states in one heap -/
def uRz (u : UH) (n : Nat) : UH := (n, u.2)
theorem RR.rzm {T : TS} {x m : UH} (h : RR T x m) (n : Nat) : RR T x (uRz m n) := h
theorem RR.rzx {T : TS} {x m : UH} (h : RR T x m) {n : Nat} (hn : uSz x ≤ n) : RR T (uRz x n) m := by
  obtain ⟨h1, ⟨h2, h3, h4⟩, h5⟩ := h
  exact ⟨h1, ⟨h2, ⟨fun a ha => Nat.lt_of_lt_of_le (h3.1 a ha) hn, Nat.le_trans h3.2 hn⟩, h4.bs (fun _ h => h)⟩, h5⟩
def LH (D : UD) (s : State) (B1 : Nat) (x m : UH) (H : Heap) : Prop := uHold D s.heap.size x H ∧ uHold D B1 m H ∧ (∀ a a', uKd x a ≠ 0 → uKd m a' ≠ 0 → s.heap.size + a ≠ B1 + a') ∧ s.heap.size ≤ B1 ∧ s.heap.size ≤ H.size ∧ ∀ q, q < s.heap.size → H[q]? = s.heap[q]?
theorem LH.S {D : UD} {s : State} {B1 : Nat} {x m : UH} {H : Heap} (h : LH D s B1 x m H) : va_S (fun q => s.heap.size ≤ q) s.heap H [] := ⟨h.2.2.2.2.1, fun q h1 _ => h.2.2.2.2.2 q h1, fun _ h => by cases h⟩
theorem uHold.rz {D : UD} {bs : Nat} {u : UH} {H H1 : Heap} (h : uHold D bs u H) (hz : H.size ≤ H1.size) (hk : ∀ a, uKd u a ≠ 0 → H1[bs + a]? = H[bs + a]?) : uHold D bs (uRz u (H1.size - bs)) H1 := by
  have h1 := h.1
  refine ⟨?_, fun a ha => ?_⟩
  · show bs + (H1.size - bs) = H1.size
    omega
  · exact (h.2 a ha).same ⟨rfl, rfl, fun _ _ => rfl, fun _ _ => rfl, fun _ _ => rfl, rfl, rfl, rfl⟩ (hk a ha)
section
variable {D : UD} {s : State} {B1 : Nat} {x m v : UH} {H H1 : Heap}
theorem LH.callx (h : LH D s B1 x m H) (h1 : uHold D s.heap.size v H1) (h2 : ∀ a, uKd v a ≠ 0 → uA s.heap.size x (s.heap.size + a)) (h3 : H.size ≤ H1.size) (h4 : ∀ q, q < H.size → ¬ uA s.heap.size x q → H1[q]? = H[q]?) : LH D s B1 v (uRz m (H1.size - B1)) H1 := by
  obtain ⟨g1, g2, g3, g4, g5, g6⟩ := h
  have z1 := g1.1
  have hlt : ∀ a, uKd m a ≠ 0 → B1 + a < H.size := fun a ha => (g2.2 a ha).lt
  refine ⟨h1, g2.rz h3 (fun a ha => h4 _ (hlt a ha) ?_), fun a a' ha ha' e => ?_, g4, by omega, fun q hq => ?_⟩
  · rintro (⟨a', k1, k2⟩ | k)
    · exact g3 a' a k1 ha k2.symm
    · have := hlt a ha; omega
  · have ha2 : uKd m a' ≠ 0 := ha'
    rcases h2 a ha with ⟨a2, k1, k2⟩ | k
    · exact g3 a2 a' k1 ha2 (by omega)
    · have := hlt a' ha2; omega
  · rw [h4 q (by omega) (fun z => by have := z.base; omega)]; exact g6 q hq
theorem LH.callm (h : LH D s B1 x m H) (h1 : uHold D B1 v H1) (h2 : ∀ a, uKd v a ≠ 0 → uA B1 m (B1 + a)) (h3 : H.size ≤ H1.size) (h4 : ∀ q, q < H.size → ¬ uA B1 m q → H1[q]? = H[q]?) : LH D s B1 (uRz x (H1.size - s.heap.size)) v H1 := by
  obtain ⟨g1, g2, g3, g4, g5, g6⟩ := h
  have z1 := g2.1
  have hlt : ∀ a, uKd x a ≠ 0 → s.heap.size + a < H.size := fun a ha => (g1.2 a ha).lt
  refine ⟨g1.rz h3 (fun a ha => h4 _ (hlt a ha) ?_), h1, fun a a' ha ha' e => ?_, g4, by omega, fun q hq => ?_⟩
  · rintro (⟨a', k1, k2⟩ | k)
    · exact g3 a a' ha k1 k2
    · have := hlt a ha; omega
  · have ha2 : uKd x a ≠ 0 := ha
    rcases h2 a' ha' with ⟨a2, k1, k2⟩ | k
    · exact g3 a a2 ha2 k1 (by omega)
    · have := hlt a ha2; omega
  · rw [h4 q (by omega) (fun z => by have := z.base; omega)]; exact g6 q hq
end
abbrev LG (p : Program) (l : Launch) (e : Env) (s : State) (m : MethodId) (b : Nat) (below : List Frame) (meth : Method) (c : Code) (H : Heap) (cells slots : Nat) (pc : Nat) (ls : Array Slot) (st : List Value) : Prop := W p l e room_1 s m #[Value.ref b] below meth c H [] cells slots (lw_Z below #[Value.ref b] s) (F0 m pc ls st)
def LC (p : Program) (s : State) (m : MethodId) (meth : Method) (c : Code) (b L : Nat) (xs : Nat → Int32) (D : UD) (tw : Nat) : Prop := lw_At p s m meth c b L xs ∧ (∀ w ∈ lw_g, w.before #[Value.ref b] s = true) ∧ va_K D.1 vwCl (uTys D) s ∧ uST s.heap.size tw s s.heap ∧ uEx s
section
variable {p : Program} {l : Launch} {e : Env} {s : State} {m : MethodId} {b : Nat} {below : List Frame} {meth : Method} {c : Code} {H : Heap} {cells slots pc L tw B1 bs i : Nat} {ls : Array Slot} {st : List Value} {xs : Nat → Int32} {D : UD} {x mU u v : UH}
theorem LC.cx (C : LC p s m meth c b L xs D tw) (hbs : s.heap.size ≤ bs) : uCx (p, l, e, s, m, #[Value.ref b], below, meth, c) D bs tw code 4 RL ret := by
  obtain ⟨⟨h1, h2, h3, h4, h5, h6, h7, h8, h9, h10⟩, k1, k2, k3, k4⟩ := C
  exact ⟨h1, h2, h4, h5, k1, h3, h9, k2, ⟨k3.1.narrow (fun q hq => Nat.le_trans hbs hq), k3.2.narrow (fun q hq => Nat.le_trans hbs hq)⟩, k4⟩
/-- a method's start, at a heap in which nothing old has changed -/
theorem LC.pre (C : LC p s m meth c b L xs D tw) (hbs : s.heap.size ≤ bs) (hh : uHold D bs u H) (hold : ∀ q, q < s.heap.size → H[q]? = s.heap[q]?) : ∀ U : State, U.heap = H → s.WarmedH U.vm → uIn D bs u U := by
  have hST : uST bs tw s s.heap := ⟨C.2.2.2.1.1.narrow (fun q hq => Nat.le_trans hbs hq), C.2.2.2.1.2.narrow (fun q hq => Nat.le_trans hbs hq)⟩
  intro U hU hW
  refine ⟨by rw [hU]; exact hh, va_K.moved hW.alike C.2.2.1, uEx.warm hW C.2.2.2.2, tw, ?_⟩
  rw [hU]
  exact (uST.kept hST (fun a h1 h2 => hold a h1)).moved hW.alike
variable {y : MethodName} {ccy : ByteArray} {n maxL index mc ms cN : Nat} {rty : Option FieldType} {rm : Room} {As rest : List Value}
theorem lrun (C : LC p s m meth c b L xs D tw) (hbs : s.heap.size ≤ bs) (hh : uHold D bs u H) (hold : ∀ q, q < s.heap.size → H[q]? = s.heap[q]?) (hls : ls.size = 4) {Qc : Array Value → State → Outcome → State → Prop} (g : uGV RL index y ccy n maxL rty) (q : vw_C) (hcr : vwCl[cN]? = some q) (hcy : q.1 = y.cls) (h19 : cN < 19) (hk : uKd u 0 = cN + 1) (hM : Met l y (wz y ccy maxL rty) rm (va_Pc (.ref (bs + 0) :: As) (uIn D bs u)) Qc mc ms (uA bs u)) (hrc : rm.cells = mc ∧ rm.slots = ms) (hn : As.length = n) (hroom : rm.frames + 1 ≤ room_1.frames ∧ 8 + (maxL + 11) + rm.locals ≤ room_1.locals) (hst : st = As.reverse ++ .ref (bs + 0) :: rest) (hW : (rest.map fun v => v.category).sum ≤ 8) (hcl : cells + mc ≤ room_1.cells ∧ slots + ms ≤ room_1.slots) (hdg : decode code pc = .ok (.invokevirtual index, 3)) : ∃ a, va_Run p l e room_1 s m #[Value.ref b] below meth c H [] cells slots mc ms (F0 m pc ls st) rest (Qc a) (uA bs u) := by
  have C1 := C.cx (l := l) (e := e) (below := below) hbs
  refine ⟨_, va_runV (C := y.cls) (As := As) (rest := rest) (b := bs + 0) ⟨C1.1, C1.2.1, C1.2.2.1, C1.2.2.2.1, C1.2.2.2.2.1⟩ hM (cwV n C1.2.2.2.2.1 g.1 rfl hrc.1 hrc.2 ⟨rfl, g.2⟩ hroom) ⟨uIn.blind, ?_, fun U hU hW => ⟨rfl, C.pre hbs hh hold U hU hW⟩⟩ rfl hn hls hst (lv_room hW) hdg hcl⟩
  obtain ⟨r', hr', cell, q1, q2, q3, q4⟩ := hh.obj hk h19
  have hKc := (C.2.2.1.1 cN q hcr).2.1
  exact ⟨cell, q1, by rw [q3]; rfl, by rw [q2, ← hcy]; exact hKc⟩
theorem lcall_i (C : LC p s m meth c b L xs D tw) (hbs : s.heap.size ≤ bs) (hh : uHold D bs u H) (hsz : s.heap.size ≤ H.size) (hold : ∀ q, q < s.heap.size → H[q]? = s.heap[q]?) (hls : ls.size = 4) {r : Int32} (g : uGV RL index y ccy n maxL rty) (q : vw_C) (hcr : vwCl[cN]? = some q) (hcy : q.1 = y.cls) (h19 : cN < 19) (hk : uKd u 0 = cN + 1) (hM : Met l y (wz y ccy maxL rty) rm (va_Pc (.ref (bs + 0) :: As) (uIn D bs u)) (uQi D bs u v r) mc ms (uA bs u)) (hrc : rm.cells = mc ∧ rm.slots = ms) (hn : As.length = n) (hroom : rm.frames + 1 ≤ room_1.frames ∧ 8 + (maxL + 11) + rm.locals ≤ room_1.locals) (hst : st = As.reverse ++ .ref (bs + 0) :: rest) (hW : (rest.map fun v => v.category).sum ≤ 8) (hcl : cells + mc ≤ room_1.cells ∧ slots + ms ≤ room_1.slots) (hdg : decode code pc = .ok (.invokevirtual index, 3))
    (kk : ∀ H1, uHold D bs v H1 → (∀ a, uKd v a ≠ 0 → uA bs u (bs + a)) → H.size ≤ H1.size → (∀ q, q < H.size → ¬ uA bs u q → H1[q]? = H[q]?) → LG p l e s m b below meth c H1 (cells + mc) (slots + ms) (pc + 3) ls (.int r :: rest)) : LG p l e s m b below meth c H cells slots pc ls st := by
  obtain ⟨a, hr⟩ := lrun (l := l) (e := e) (below := below) C hbs hh hold hls g q hcr hcy h19 hk hM hrc hn hroom hst hW hcl hdg
  have hS : va_S (fun q => s.heap.size ≤ q) s.heap H [] := ⟨hsz, fun q h1 _ => hold q h1, fun _ h => by cases h⟩
  refine va_calli hr hS (fun q _ h => Nat.le_trans hbs h.base) (fun q h => Nat.le_trans hbs h.base) (fun r' _ t H1 locs1 ht hvm hp hb hz hk hS => va_forget (fun q hq => hS.2.2 q hq) ?_)
  subst hp
  obtain ⟨b1, b2⟩ := hb
  rw [ht] at b1
  exact kk H1 b1 b2 hz hk
theorem lcall_l (C : LC p s m meth c b L xs D tw) (hbs : s.heap.size ≤ bs) (hh : uHold D bs u H) (hsz : s.heap.size ≤ H.size) (hold : ∀ q, q < s.heap.size → H[q]? = s.heap[q]?) (hls : ls.size = 4) {r : Int64} (g : uGV RL index y ccy n maxL rty) (q : vw_C) (hcr : vwCl[cN]? = some q) (hcy : q.1 = y.cls) (h19 : cN < 19) (hk : uKd u 0 = cN + 1) (hM : Met l y (wz y ccy maxL rty) rm (va_Pc (.ref (bs + 0) :: As) (uIn D bs u)) (uQl D bs u v r) mc ms (uA bs u)) (hrc : rm.cells = mc ∧ rm.slots = ms) (hn : As.length = n) (hroom : rm.frames + 1 ≤ room_1.frames ∧ 8 + (maxL + 11) + rm.locals ≤ room_1.locals) (hst : st = As.reverse ++ .ref (bs + 0) :: rest) (hW : (rest.map fun v => v.category).sum ≤ 8) (hcl : cells + mc ≤ room_1.cells ∧ slots + ms ≤ room_1.slots) (hdg : decode code pc = .ok (.invokevirtual index, 3))
    (kk : ∀ H1, uHold D bs v H1 → (∀ a, uKd v a ≠ 0 → uA bs u (bs + a)) → H.size ≤ H1.size → (∀ q, q < H.size → ¬ uA bs u q → H1[q]? = H[q]?) → LG p l e s m b below meth c H1 (cells + mc) (slots + ms) (pc + 3) ls (.long r :: rest)) : LG p l e s m b below meth c H cells slots pc ls st := by
  obtain ⟨a, hr⟩ := lrun (l := l) (e := e) (below := below) C hbs hh hold hls g q hcr hcy h19 hk hM hrc hn hroom hst hW hcl hdg
  have hS : va_S (fun q => s.heap.size ≤ q) s.heap H [] := ⟨hsz, fun q h1 _ => hold q h1, fun _ h => by cases h⟩
  refine va_calll hr hS (fun q _ h => Nat.le_trans hbs h.base) (fun q h => Nat.le_trans hbs h.base) (fun r' _ t H1 locs1 ht hvm hp hb hz hk hS => va_forget (fun q hq => hS.2.2 q hq) ?_)
  subst hp
  obtain ⟨b1, b2⟩ := hb
  rw [ht] at b1
  exact kk H1 b1 b2 hz hk
theorem lcall_init (C : LC p s m meth c b L xs D tw) (hbs : s.heap.size ≤ bs) (hh : uHold D bs u H) (hsz : s.heap.size ≤ H.size) (hold : ∀ q, q < s.heap.size → H[q]? = s.heap[q]?) (hls : ls.size = 4) (g : uGI RL index y ccy 0 maxL) (hM : Met l y (wz y ccy maxL none) rm (va_Pc [.ref (bs + 0)] (uIn D bs u)) (uQv D bs u v) mc ms (uA bs u)) (hrc : rm.cells = mc ∧ rm.slots = ms) (hroom : rm.frames + 1 ≤ room_1.frames ∧ 8 + (maxL + 11) + rm.locals ≤ room_1.locals) (hst : st = .ref (bs + 0) :: rest) (hW : (rest.map fun v => v.category).sum ≤ 8) (hcl : cells + mc ≤ room_1.cells ∧ slots + ms ≤ room_1.slots) (hdg : decode code pc = .ok (.invokespecial index, 3))
    (kk : ∀ H1, uHold D bs v H1 → (∀ a, uKd v a ≠ 0 → uA bs u (bs + a)) → H.size ≤ H1.size → (∀ q, q < H.size → ¬ uA bs u q → H1[q]? = H[q]?) → LG p l e s m b below meth c H1 (cells + mc) (slots + ms) (pc + 3) ls rest) : LG p l e s m b below meth c H cells slots pc ls st := by
  have C1 := C.cx (l := l) (e := e) (below := below) hbs
  obtain ⟨g1, g2, g3, g4, g5, g6⟩ := g
  have hr := va_runI (p := p) (l := l) (e := e) (R := room_1) (s := s) (m := m) (args := #[Value.ref b]) (below := below) (meth := meth) (c := c) (H := H) (locs := []) (cells := cells) (slots := slots) (g := F0 m pc ls st) (As := []) (rest := rest) (b := bs + 0) ⟨C1.1, C1.2.1, C1.2.2.1, C1.2.2.2.1, C1.2.2.2.2.1⟩ hM (cwI 0 C1.2.2.2.2.1 g1 rfl hrc.1 hrc.2 (C1.2.2.2.2.1 _ g5) (C1.2.2.2.2.1 _ g3) (C1.2.2.2.2.1 _ g4) g6 g2 hroom) ⟨uIn.blind, fun U hU hW => ⟨rfl, C.pre hbs hh hold U hU hW⟩⟩ rfl rfl hls hst (lv_room hW) hdg hcl
  have hS : va_S (fun q => s.heap.size ≤ q) s.heap H [] := ⟨hsz, fun q h1 _ => hold q h1, fun _ h => by cases h⟩
  refine va_callv hr hS (fun q _ h => Nat.le_trans hbs h.base) (fun q h => Nat.le_trans hbs h.base) (fun _ t H1 locs1 ht hvm hp hb hz hk hS => va_forget (fun q hq => hS.2.2 q hq) ?_)
  obtain ⟨b1, b2⟩ := hb
  rw [ht] at b1
  exact kk H1 b1 b2 hz hk
/-- an element of the script -/
theorem lg_arg (C : LC p s m meth c b L xs D tw) (hL : L ≤ 3584) (hS : va_S (fun q => s.heap.size ≤ q) s.heap H []) {Lv : List (Nat × Value)} (hl : lv_has ls 4 Lv) (h0 : Lv[0]? = some (0, .ref b)) (h3 : Lv[3]? = some (3, .int (nI i))) (k : Nat) (hi : i + k < L) (d0 : decode code pc = .ok (.aload_n 0, 1)) (d1 : decode code (pc + 1) = .ok (.iload_n 3, 1)) (d2 : decode code (pc + 2) = .ok (.iconst (k : Int), 1)) (hk : Int32.ofInt (k : Int) = nI k) (d3 : decode code (pc + 3) = .ok (.iadd, 1)) (d4 : decode code (pc + 4) = .ok (.iaload, 1)) (kk : LG p l e s m b below meth c H cells slots (pc + 5) ls (.int (xs (i + k)) :: st)) : LG p l e s m b below meth c H cells slots pc ls st := by
  obtain ⟨⟨hx, hb, hr, hml, hown, hts, hX, hbl, hlocks, hgv⟩, _⟩ := C
  refine lv_aload_n hx hb d0 rfl (lv_at hl 0 h0) (lv_iload_n hx hb d1 rfl (lv_at hl 3 h3) (lv_iconst hx hb d2 hk (lv_iadd hx hb d3 ?_)))
  rw [nI_add]
  refine va_sld hx hb hX hbl (fun z => Nat.not_le.mpr hbl z) hS (nI_in hi (by omega)) d4 ?_
  rw [nI_clamp (by omega)]
  exact kk
theorem lg_arg6 (C : LC p s m meth c b L xs D tw) (hL : L ≤ 3584) (hS : va_S (fun q => s.heap.size ≤ q) s.heap H []) {Lv : List (Nat × Value)} (hl : lv_has ls 4 Lv) (h0 : Lv[0]? = some (0, .ref b)) (h3 : Lv[3]? = some (3, .int (nI i))) (k : Nat) (hi : i + k < L) (d0 : decode code pc = .ok (.aload_n 0, 1)) (d1 : decode code (pc + 1) = .ok (.iload_n 3, 1)) (d2 : decode code (pc + 2) = .ok (.bipush (k : Int), 2)) (hk : (Int8.ofInt (k : Int)).toInt32 = nI k) (d3 : decode code (pc + 4) = .ok (.iadd, 1)) (d4 : decode code (pc + 5) = .ok (.iaload, 1)) (kk : LG p l e s m b below meth c H cells slots (pc + 6) ls (.int (xs (i + k)) :: st)) : LG p l e s m b below meth c H cells slots pc ls st := by
  obtain ⟨⟨hx, hb, hr, hml, hown, hts, hX, hbl, hlocks, hgv⟩, _⟩ := C
  refine lv_aload_n hx hb d0 rfl (lv_at hl 0 h0) (lv_iload_n hx hb d1 rfl (lv_at hl 3 h3) (lv_bipush hx hb d2 hk (lv_iadd hx hb d3 ?_)))
  rw [nI_add]
  refine va_sld hx hb hX hbl (fun z => Nat.not_le.mpr hbl z) hS (nI_in hi (by omega)) d4 ?_
  rw [nI_clamp (by omega)]
  exact kk
def b01 (y : Int32) : Int32 := if y = 0 then 0 else 1
theorem b01_ok (y : Int32) : b01 y = 0 ∨ b01 y = 1 := by
  unfold b01
  split
  · exact Or.inl rfl
  · exact Or.inr rfl
theorem lg_bool (C : LC p s m meth c b L xs D tw) {y : Int32} {o1 o2 : Int} {t1 t2 : Nat} (d0 : decode code pc = .ok (.ifCond .eq o1, 3)) (e1 : (pc : Int) + o1 = (t1 : Int)) (d1 : decode code (pc + 3) = .ok (.iconst 1, 1)) (d2 : decode code (pc + 4) = .ok (.goto o2, 3)) (e2 : ((pc + 4 : Nat) : Int) + o2 = (t2 : Int)) (d3 : decode code t1 = .ok (.iconst 0, 1)) (e3 : t1 + 1 = t2) (kk : LG p l e s m b below meth c H cells slots t2 ls (.int (b01 y) :: st)) : LG p l e s m b below meth c H cells slots pc ls (.int y :: st) := by
  obtain ⟨⟨hx, hb, _⟩, _⟩ := C
  refine lv_if_eq hx hb d0 e1 (fun h => ?_) (fun h => ?_)
  · subst e3
    refine lv_iconst (v := 0) hx hb d3 (by decide) ?_
    rw [show b01 y = 0 from if_pos h] at kk; exact kk
  · refine lv_iconst (v := 1) hx hb d1 (by decide) (lv_goto hx hb d2 e2 ?_)
    rw [show b01 y = 1 from if_neg h] at kk; exact kk
theorem lg_eq (C : LC p s m meth c b L xs D tw) {r : Int32} {off : Int} {tgt : Nat} (d : decode code pc = .ok (.if_icmp .eq off, 3)) (ht : (pc : Int) + off = (tgt : Int)) (kk : LG p l e s m b below meth c H cells slots tgt ls st) : LG p l e s m b below meth c H cells slots pc ls (.int r :: .int r :: st) := by
  obtain ⟨⟨hx, hb, _⟩, _⟩ := C
  exact lv_icmp_eq hx hb d ht (fun _ => kk) (fun h => absurd rfl h)
theorem lg_eql (C : LC p s m meth c b L xs D tw) {r : Int64} {off : Int} {tgt : Nat} (d1 : decode code pc = .ok (.lcmp, 1)) (d : decode code (pc + 1) = .ok (.ifCond .eq off, 3)) (ht : ((pc + 1 : Nat) : Int) + off = (tgt : Int)) (kk : LG p l e s m b below meth c H cells slots tgt ls st) : LG p l e s m b below meth c H cells slots pc ls (.long r :: .long r :: st) := by
  obtain ⟨⟨hx, hb, _⟩, _⟩ := C
  refine W.lcmp hx hb d1 (lv_if_eq hx hb d ht (fun _ => kk) (fun h => absurd ?_ h))
  unfold lg_cmp
  simp
end
