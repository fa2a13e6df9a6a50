theorem gAll : GoodIn lw_g lw_g := fun w hw => ⟨hw, good_of_word (List.mem_filter.mp hw).2⟩
theorem gW {y : MethodName} {cc : ByteArray} {n : Nat} {ret : Option FieldType} (h : Cond.code y cc n ret ∈ lw_g) : GoodIn lw_g (wz y cc n ret) := by
  intro w hw
  rcases List.mem_cons.mp hw with rfl | hw
  · exact gAll _ h
  · exact gAll _ hw
theorem gWV {own : String} {index n : Nat} {y : MethodName} {cc : ByteArray} {ret : Option FieldType} (h1 : Cond.methodLink own index y ∈ lw_g) (h2 : Cond.instanceMethod y ∈ lw_g) (h3 : Cond.selects y.cls y y ∈ lw_g) (h4 : Cond.initialized y.cls ∈ lw_g) (h : Cond.code y cc n ret ∈ lw_g) : GoodIn lw_g (wsV own index y.cls y (wz y cc n ret)) := by
  intro w hw
  rcases List.mem_append.mp hw with hw | hw
  · simp only [List.mem_cons, List.not_mem_nil, or_false] at hw
    rcases hw with rfl | rfl | rfl | rfl
    · exact gAll _ h1
    · exact gAll _ h2
    · exact gAll _ h3
    · exact gAll _ h4
  · exact gW h w hw
theorem gWS {own : String} {index n : Nat} {y : MethodName} {cc : ByteArray} {ret : Option FieldType} (h1 : Cond.methodLink own index y ∈ lw_g) (h2 : Cond.static y ∈ lw_g) (h4 : Cond.initialized y.cls ∈ lw_g) (h : Cond.code y cc n ret ∈ lw_g) : GoodIn lw_g (va_wsS own index y (wz y cc n ret)) := by
  intro w hw
  rcases List.mem_append.mp hw with hw | hw
  · simp only [List.mem_cons, List.not_mem_nil, or_false] at hw
    rcases hw with rfl | rfl | rfl
    · exact gAll _ h1
    · exact gAll _ h2
    · exact gAll _ h4
  · exact gW h w hw
def uNm (y : MethodName) (n : Nat) : Prop := y.cls ≠ "java/lang/invoke/MethodHandle" ∧ y.cls ≠ "java/lang/invoke/VarHandle" ∧ (parseMethodDescriptor y.desc).map (fun d => d.parameters.length) = some n
def uGV (own : String) (index : Nat) (y : MethodName) (cc : ByteArray) (n maxL : Nat) (ret : Option FieldType) : Prop := GoodIn lw_g (wsV own index y.cls y (wz y cc maxL ret)) ∧ uNm y n
def uGS (own : String) (index : Nat) (y : MethodName) (cc : ByteArray) (n maxL : Nat) (ret : Option FieldType) : Prop := GoodIn lw_g (va_wsS own index y (wz y cc maxL ret)) ∧ uNm y n
def uGN (own : String) (index : Nat) (y : MethodName) (cc : ByteArray) (n maxL : Nat) (ret : Option FieldType) : Prop := GoodIn lw_g (wz y cc maxL ret) ∧ uNm y n ∧ (∃ host, Cond.methodLinkNest own index y host ∈ lw_n) ∧ Cond.static y ∈ lw_g ∧ Cond.initialized y.cls ∈ lw_g
def uGI (own : String) (index : Nat) (y : MethodName) (cc : ByteArray) (n maxL : Nat) : Prop := GoodIn lw_g (wz y cc maxL none) ∧ uNm y n ∧ Cond.methodLink own index y ∈ lw_g ∧ Cond.instanceMethod y ∈ lw_g ∧ Cond.initialized y.cls ∈ lw_g ∧ y.name = "<init>"
def uGJ (own : String) (index : Nat) (y : MethodName) (cc : ByteArray) (n maxL : Nat) : Prop := GoodIn lw_g (wz y cc maxL none) ∧ uNm y n ∧ (∃ host, Cond.methodLinkNest own index y host ∈ lw_n) ∧ Cond.instanceMethod y ∈ lw_g ∧ Cond.initialized y.cls ∈ lw_g ∧ y.name = "<init>"
def uQi (D : UD) (bs : Nat) (u v : UH) (r : Int32) : Array Value → State → Outcome → State → Prop := va_Qi (fun (r' : Int32) (_ : Unit) => r' = r) (fun _ t => uOut D bs u v t) (uA bs u)
def uQl (D : UD) (bs : Nat) (u v : UH) (r : Int64) : Array Value → State → Outcome → State → Prop := va_Ql (fun (r' : Int64) (_ : Unit) => r' = r) (fun _ t => uOut D bs u v t) (uA bs u)
def uQv (D : UD) (bs : Nat) (u v : UH) : Array Value → State → Outcome → State → Prop := va_Qv (fun (_ : Unit) => True) (fun _ t => uOut D bs u v t) (uA bs u)
def uQr (D : UD) (bs : Nat) (u v : UH) (r : Nat) : Array Value → State → Outcome → State → Prop := va_Qr (fun (_ : Unit) => True) (fun _ a t => a = bs + r ∧ uOut D bs u v t) (uA bs u)
theorem uIn.blind {D : UD} {bs : Nat} {u : UH} {av : List Value} : FrameBlind (va_Pc av (uIn D bs u)) := by
  intro a U g mk q
  obtain ⟨q0, q1, q2, q4, tw, q3⟩ := q
  exact ⟨q0, q1, va_K.moved (u := U) (U := U.calling g mk a) (Vm.Alike.refl U.vm) q2, uEx.same (u := U) (U := U.calling g mk a) rfl q4, tw, uST.moved (u := U) (U := U.calling g mk a) (Vm.Alike.refl U.vm) q3⟩
section VCALL
variable {X : UX} {D : UD} {bs tw : Nat} {u0 u : UH} {R : Room} {nL cells slots : Nat} {Q : State → Prop} {cc : ByteArray} {own : String} {ret : Option FieldType} {pc : Nat} {L : List (Nat × Value)} {st : List Value}
def uRn (X : UX) (D : UD) (bs : Nat) (u0 : UH) (R : Room) (nL cells slots mc ms : Nat) (u : UH) (pc : Nat) (L : List (Nat × Value)) (st rest : List Value) (Q1 : Array Value → State → Outcome → State → Prop) : Prop :=
  ∀ (H : Heap) (locs : List Loc) (ls : Array Slot), uHX D bs u0 X.2.2.2.1 u H locs → lv_has ls nL L → ∃ a, va_Run X.1 X.2.1 X.2.2.1 R X.2.2.2.1 X.2.2.2.2.1 X.2.2.2.2.2.1 X.2.2.2.2.2.2.1 X.2.2.2.2.2.2.2.1 X.2.2.2.2.2.2.2.2 H locs cells slots mc ms (F0 X.2.2.2.2.1 pc ls st) rest (Q1 a) (uA bs u)
theorem uHX.pre (C : uCx X D bs tw cc nL own ret) {H : Heap} {locs : List Loc} (hu : uHX D bs u0 X.2.2.2.1 u H locs) : ∀ U : State, U.heap = H → X.2.2.2.1.WarmedH U.vm → uIn D bs u U := by
  intro U hU hW
  refine ⟨by rw [hU]; exact hu.1, va_K.moved hW.alike C.2.2.2.2.2.2.2.1, uEx.warm hW C.2.2.2.2.2.2.2.2.2, tw, ?_⟩
  rw [hU]
  exact (uST.kept C.2.2.2.2.2.2.2.2.1 (fun a h1 h2 => hu.2.1.2.1 a h1 (fun h => by have := h.base; omega))).moved hW.alike
variable {y : MethodName} {ccy : ByteArray} {n maxL index mc ms : Nat} {rty : Option FieldType} {rm : Room} {Qc : Array Value → State → Outcome → State → Prop} {As rest : List Value} {b : Nat}
theorem rn_V (C : uCx X D bs tw cc nL own ret) (g : uGV own index y ccy n maxL rty) {c : Nat} (q : vw_C) (hcr : vwCl[c]? = some q) (hcy : q.1 = y.cls) (h19 : c < 19) (hk : uKd u b = c + 1) (hM : Met X.2.1 y (wz y ccy maxL rty) rm (va_Pc (.ref (bs + b) :: As) (uIn D bs u)) Qc mc ms (uA bs u)) (hrc : rm.cells = mc ∧ rm.slots = ms) (hn : As.length = n) (hroom : rm.frames + 1 ≤ R.frames ∧ 8 + (maxL + 11) + rm.locals ≤ R.locals) (hst : st = As.reverse ++ .ref (bs + b) :: rest) (hW : (rest.map fun v => v.category).sum ≤ 8) (hcl : cells + mc ≤ R.cells ∧ slots + ms ≤ R.slots) (hdg : decode cc pc = .ok (.invokevirtual index, 3)) : uRn X D bs u0 R nL cells slots mc ms u pc L st rest Qc := by
  intro H locs ls hu hl
  refine ⟨_, va_runV (C := y.cls) (As := As) (rest := rest) (b := bs + b) ⟨C.1, C.2.1, C.2.2.1, C.2.2.2.1, C.2.2.2.2.1⟩ hM (cwV n C.2.2.2.2.1 g.1 rfl hrc.1 hrc.2 ⟨rfl, g.2⟩ hroom) ⟨uIn.blind, ?_, fun U hU hW => ⟨rfl, hu.pre C U hU hW⟩⟩ rfl hn hl.1 hst (lv_room hW) hdg hcl⟩
  obtain ⟨r', hr', cell, q1, q2, q3, q4⟩ := hu.1.obj hk h19
  have hKc := (C.2.2.2.2.2.2.2.1.1 c q hcr).2.1
  exact ⟨cell, q1, by rw [q3]; rfl, by rw [q2, ← hcy]; exact hKc⟩
theorem rn_S (C : uCx X D bs tw cc nL own ret) (g : uGS own index y ccy n maxL rty) (hM : Met X.2.1 y (wz y ccy maxL rty) rm (va_Pc As (uIn D bs u)) Qc mc ms (uA bs u)) (hrc : rm.cells = mc ∧ rm.slots = ms) (hn : As.length = n) (hroom : rm.frames + 1 ≤ R.frames ∧ 8 + (maxL + 11) + rm.locals ≤ R.locals) (hst : st = As.reverse ++ rest) (hW : (rest.map fun v => v.category).sum ≤ 8) (hcl : cells + mc ≤ R.cells ∧ slots + ms ≤ R.slots) (hdg : decode cc pc = .ok (.invokestatic index, 3)) : uRn X D bs u0 R nL cells slots mc ms u pc L st rest Qc := fun H locs ls hu hl =>
  ⟨_, va_runS (As := As) (rest := rest) ⟨C.1, C.2.1, C.2.2.1, C.2.2.2.1, C.2.2.2.2.1⟩ hM (va_cwS n C.2.2.2.2.1 g.1 rfl hrc.1 hrc.2 g.2 hroom) ⟨uIn.blind, fun U hU hW => ⟨rfl, hu.pre C U hU hW⟩⟩ rfl hn hl.1 hst (lv_room hW) hdg hcl⟩
theorem rn_N (C : uCx X D bs tw cc nL own ret) (g : uGN own index y ccy n maxL rty) (hM : Met X.2.1 y (wz y ccy maxL rty) rm (va_Pc As (uIn D bs u)) Qc mc ms (uA bs u)) (hrc : rm.cells = mc ∧ rm.slots = ms) (hn : As.length = n) (hroom : rm.frames + 1 ≤ R.frames ∧ 8 + (maxL + 11) + rm.locals ≤ R.locals) (hst : st = As.reverse ++ rest) (hW : (rest.map fun v => v.category).sum ≤ 8) (hcl : cells + mc ≤ R.cells ∧ slots + ms ≤ R.slots) (hdg : decode cc pc = .ok (.invokestatic index, 3)) : uRn X D bs u0 R nL cells slots mc ms u pc L st rest Qc := by
  intro H locs ls hu hl
  obtain ⟨g1, g2, ⟨host, g3⟩, g4, g5⟩ := g
  exact ⟨_, va_runSN (As := As) (rest := rest) (host := host) ⟨C.1, C.2.1, C.2.2.1, C.2.2.2.1, C.2.2.2.2.1⟩ hM ⟨va_cnB n C.2.2.2.2.1 g1 rfl hrc.1 hrc.2 (C.2.2.2.2.2.2.2.2.2 _ g3) (C.2.2.2.2.1 _ g5) g2 hroom, C.2.2.2.2.1 _ g4, trivial⟩ ⟨uIn.blind, fun U hU hW => ⟨rfl, hu.pre C U hU hW⟩⟩ rfl hn hl.1 hst (lv_room hW) hdg hcl⟩
theorem rn_I (C : uCx X D bs tw cc nL own ret) (g : uGI own index y ccy n maxL) (hM : Met X.2.1 y (wz y ccy maxL none) rm (va_Pc (.ref (bs + b) :: As) (uIn D bs u)) Qc mc ms (uA bs u)) (hrc : rm.cells = mc ∧ rm.slots = ms) (hn : As.length = n) (hroom : rm.frames + 1 ≤ R.frames ∧ 8 + (maxL + 11) + rm.locals ≤ R.locals) (hst : st = As.reverse ++ .ref (bs + b) :: rest) (hW : (rest.map fun v => v.category).sum ≤ 8) (hcl : cells + mc ≤ R.cells ∧ slots + ms ≤ R.slots) (hdg : decode cc pc = .ok (.invokespecial index, 3)) : uRn X D bs u0 R nL cells slots mc ms u pc L st rest Qc := by
  intro H locs ls hu hl
  obtain ⟨g1, g2, g3, g4, g5, g6⟩ := g
  exact ⟨_, va_runI (As := As) (rest := rest) (b := bs + b) ⟨C.1, C.2.1, C.2.2.1, C.2.2.2.1, C.2.2.2.2.1⟩ hM (cwI n C.2.2.2.2.1 g1 rfl hrc.1 hrc.2 (C.2.2.2.2.1 _ g5) (C.2.2.2.2.1 _ g3) (C.2.2.2.2.1 _ g4) g6 g2 hroom) ⟨uIn.blind, fun U hU hW => ⟨rfl, hu.pre C U hU hW⟩⟩ rfl hn hl.1 hst (lv_room hW) hdg hcl⟩
theorem rn_J (C : uCx X D bs tw cc nL own ret) (g : uGJ own index y ccy n maxL) (hM : Met X.2.1 y (wz y ccy maxL none) rm (va_Pc (.ref (bs + b) :: As) (uIn D bs u)) Qc mc ms (uA bs u)) (hrc : rm.cells = mc ∧ rm.slots = ms) (hn : As.length = n) (hroom : rm.frames + 1 ≤ R.frames ∧ 8 + (maxL + 11) + rm.locals ≤ R.locals) (hst : st = As.reverse ++ .ref (bs + b) :: rest) (hW : (rest.map fun v => v.category).sum ≤ 8) (hcl : cells + mc ≤ R.cells ∧ slots + ms ≤ R.slots) (hdg : decode cc pc = .ok (.invokespecial index, 3)) : uRn X D bs u0 R nL cells slots mc ms u pc L st rest Qc := by
  intro H locs ls hu hl
  obtain ⟨g1, g2, ⟨host, g3⟩, g4, g5, g6⟩ := g
  exact ⟨_, va_runIN (As := As) (rest := rest) (b := bs + b) (host := host) ⟨C.1, C.2.1, C.2.2.1, C.2.2.2.1, C.2.2.2.2.1⟩ hM ⟨va_cnB n C.2.2.2.2.1 g1 rfl hrc.1 hrc.2 (C.2.2.2.2.2.2.2.2.2 _ g3) (C.2.2.2.2.1 _ g5) g2 hroom, g6, C.2.2.2.2.1 _ g4⟩ ⟨uIn.blind, fun U hU hW => ⟨rfl, hu.pre C U hU hW⟩⟩ rfl hn hl.1 hst (lv_room hW) hdg hcl⟩
theorem v_objInit (C : uCx X D bs tw cc nL own ret) {a : Addr} (h1 : Cond.methodLink own index objectInit ∈ lw_g) (h2 : Cond.instanceMethod objectInit ∈ lw_g) (h3 : Cond.code objectInit ⟨#[0xb1]⟩ 1 none ∈ lw_g) (hf : 1 ≤ R.frames) (hlo : (st.map fun v => v.category).sum + 12 ≤ R.locals) (hdg : decode cc pc = .ok (.invokespecial index, 3)) (kk : VV X D bs u0 R nL cells slots Q u (pc + 3) L st) : VV X D bs u0 R nL cells slots Q u pc L (.ref a :: st) := fun H locs ls hu hl => W.objInit C.1 C.2.1 C.2.2.2.1 (C.2.2.2.2.1 _ h1) (C.2.2.2.2.1 _ h2) (C.2.2.2.2.1 _ h3) rfl (by rw [C.2.2.1]; exact hl.1) rfl hdg hf (by show 2 * 0 + _ + 12 ≤ _; omega) (kk H locs ls hu hl)
theorem v_goi {v : UH} {r : Int32} (hr : uRn X D bs u0 R nL cells slots mc ms u pc L st rest (uQi D bs u v r)) (kk : VV X D bs u0 R nL (cells + mc) (slots + ms) Q v (pc + 3) L (.int r :: rest)) : VV X D bs u0 R nL cells slots Q u pc L st := by
  intro H locs ls hu hl
  obtain ⟨a, hr⟩ := hr H locs ls hu hl
  refine va_calli hr hu.2.1 (fun q _ h => hu.sub q h) hu.sub (fun r' _ t H1 locs1 ht hvm hp hb hz hk hS => ?_)
  subst hp
  obtain ⟨b1, b2⟩ := hb
  rw [ht] at b1
  exact kk H1 locs1 ls ⟨b1, hS, fun a ha => hu.sub _ (b2 a ha), hu.2.2.2⟩ hl
theorem v_gol {v : UH} {r : Int64} (hr : uRn X D bs u0 R nL cells slots mc ms u pc L st rest (uQl D bs u v r)) (kk : VV X D bs u0 R nL (cells + mc) (slots + ms) Q v (pc + 3) L (.long r :: rest)) : VV X D bs u0 R nL cells slots Q u pc L st := by
  intro H locs ls hu hl
  obtain ⟨a, hr⟩ := hr H locs ls hu hl
  refine va_calll hr hu.2.1 (fun q _ h => hu.sub q h) hu.sub (fun r' _ t H1 locs1 ht hvm hp hb hz hk hS => ?_)
  subst hp
  obtain ⟨b1, b2⟩ := hb
  rw [ht] at b1
  exact kk H1 locs1 ls ⟨b1, hS, fun a ha => hu.sub _ (b2 a ha), hu.2.2.2⟩ hl
theorem v_gov {v : UH} (hr : uRn X D bs u0 R nL cells slots mc ms u pc L st rest (uQv D bs u v)) (kk : VV X D bs u0 R nL (cells + mc) (slots + ms) Q v (pc + 3) L rest) : VV X D bs u0 R nL cells slots Q u pc L st := by
  intro H locs ls hu hl
  obtain ⟨a, hr⟩ := hr H locs ls hu hl
  refine va_callv hr hu.2.1 (fun q _ h => hu.sub q h) hu.sub (fun _ t H1 locs1 ht hvm hp hb hz hk hS => ?_)
  obtain ⟨b1, b2⟩ := hb
  rw [ht] at b1
  exact kk H1 locs1 ls ⟨b1, hS, fun a ha => hu.sub _ (b2 a ha), hu.2.2.2⟩ hl
theorem v_gor {v : UH} {r : Nat} (hr : uRn X D bs u0 R nL cells slots mc ms u pc L st rest (uQr D bs u v r)) (kk : VV X D bs u0 R nL (cells + mc) (slots + ms) Q v (pc + 3) L (.ref (bs + r) :: rest)) : VV X D bs u0 R nL cells slots Q u pc L st := by
  intro H locs ls hu hl
  obtain ⟨a, hr⟩ := hr H locs ls hu hl
  refine va_callr hr hu.2.1 (fun q _ h => hu.sub q h) hu.sub (fun _ ra t H1 locs1 ht hvm hp hb hz hk hS => ?_)
  obtain ⟨b0, b1, b2⟩ := hb
  subst b0
  rw [ht] at b1
  exact kk H1 locs1 ls ⟨b1, hS, fun a ha => hu.sub _ (b2 a ha), hu.2.2.2⟩ hl
theorem v_iret {r r2 : Int32} (C : uCx X D bs tw cc nL own (some .int)) {v : UH} (hdg : decode cc pc = .ok (.ireturn, 1)) (h : u = v) (hr : r2 = r) : VV X D bs u0 R nL cells slots (MQ X.2.2.2.2.2.2.1 (uQi D bs u0 v r) X.2.2.2.2.2.1 X.2.2.2.1 cells slots (uA bs u0)) u pc L [.int r2] := by
  intro H locs ls hu hl
  subst h
  subst hr
  refine W.iret C.1 C.2.1 C.2.2.2.2.2.1  (fun t ht hW => ⟨⟨_, (), rfl, rfl, ⟨by rw [ht]; exact hu.1, hu.2.2.1⟩⟩, hu.2.1.F ht⟩) hu.2.1.2.2 hdg C.2.2.2.2.2.2.1
theorem v_zret {r r2 : Int32} {ty : FieldType} (C : uCx X D bs tw cc nL own (some ty)) {v : UH} (hdg : decode cc pc = .ok (.ireturn, 1)) (h : u = v) (hr : r2 = r) (hn : narrow ty (.int r2) = .int r2) : VV X D bs u0 R nL cells slots (MQ X.2.2.2.2.2.2.1 (uQi D bs u0 v r) X.2.2.2.2.2.1 X.2.2.2.1 cells slots (uA bs u0)) u pc L [.int r2] := by
  intro H locs ls hu hl
  subst h
  subst hr
  refine W.zret C.1 C.2.1 C.2.2.2.2.2.1 hn (fun t ht hW => ⟨⟨_, (), rfl, rfl, ⟨by rw [ht]; exact hu.1, hu.2.2.1⟩⟩, hu.2.1.F ht⟩) hu.2.1.2.2 hdg C.2.2.2.2.2.2.1
theorem v_lret {r r2 : Int64} (C : uCx X D bs tw cc nL own (some .long)) {v : UH} (hdg : decode cc pc = .ok (.lreturn, 1)) (h : u = v) (hr : r2 = r) : VV X D bs u0 R nL cells slots (MQ X.2.2.2.2.2.2.1 (uQl D bs u0 v r) X.2.2.2.2.2.1 X.2.2.2.1 cells slots (uA bs u0)) u pc L [.long r2] := by
  intro H locs ls hu hl
  subst h
  subst hr
  refine W.lret C.1 C.2.1 C.2.2.2.2.2.1  (fun t ht hW => ⟨⟨_, (), rfl, rfl, ⟨by rw [ht]; exact hu.1, hu.2.2.1⟩⟩, hu.2.1.F ht⟩) hu.2.1.2.2 hdg C.2.2.2.2.2.2.1
theorem v_vret  (C : uCx X D bs tw cc nL own none) {v : UH} (hdg : decode cc pc = .ok (.return_, 1)) (h : u = v)  : VV X D bs u0 R nL cells slots (MQ X.2.2.2.2.2.2.1 (uQv D bs u0 v) X.2.2.2.2.2.1 X.2.2.2.1 cells slots (uA bs u0)) u pc L [] := by
  intro H locs ls hu hl
  subst h
  skip
  refine W.vret C.1 C.2.1 C.2.2.2.2.2.1  (fun t ht hW => ⟨⟨(), rfl, trivial, ⟨by rw [ht]; exact hu.1, hu.2.2.1⟩⟩, hu.2.1.F ht⟩) hu.2.1.2.2 hdg C.2.2.2.2.2.2.1
theorem v_aret {r r2 : Nat} {rt : FieldType} (C : uCx X D bs tw cc nL own (some rt)) {v : UH} (hdg : decode cc pc = .ok (.areturn, 1)) (h : u = v) (hr : r2 = r) (hrt : (∃ n, rt = .object n) ∨ ∃ t, rt = .array t) : VV X D bs u0 R nL cells slots (MQ X.2.2.2.2.2.2.1 (uQr D bs u0 v r) X.2.2.2.2.2.1 X.2.2.2.1 cells slots (uA bs u0)) u pc L [.ref (bs + r2)] := by
  intro H locs ls hu hl
  subst h
  subst hr
  refine W.aret C.1 C.2.1 C.2.2.2.2.2.1 hrt (Or.inr ⟨_, rfl⟩) (fun t ht hW => ⟨⟨(), _, rfl, trivial, rfl, ⟨by rw [ht]; exact hu.1, hu.2.2.1⟩⟩, hu.2.1.F ht⟩) hu.2.1.2.2 hdg C.2.2.2.2.2.2.1
def jmin (x y : Int32) : Int32 := if y < x then y else x
theorem v_min (C : uCx X D bs tw cc nL own ret) {x y : Int32} (h1 : Cond.methodLink own index yJ9_min_7cf53 ∈ lw_g) (h2 : Cond.static yJ9_min_7cf53 ∈ lw_g) (h3 : Cond.initialized RJ9 ∈ lw_g) (h4 : Cond.code yJ9_min_7cf53 cJ9_min_7cf53 2 (some .int) ∈ lw_g) (hf : 1 ≤ R.frames) (hlo : (st.map fun v => v.category).sum + 13 ≤ R.locals) (hc : cells ≤ R.cells) (hs : slots ≤ R.slots) (hdg : decode cc pc = .ok (.invokestatic index, 3)) (kk : VV X D bs u0 R nL cells slots Q u (pc + 3) L (.int (jmin x y) :: st)) : VV X D bs u0 R nL cells slots Q u pc L (.int y :: .int x :: st) := fun H locs ls hu hl => va_mmin C.1 C.2.1 (by rw [C.2.2.1]; exact hl.1.symm) C.2.2.2.1 (C.2.2.2.2.1 _ h1) (C.2.2.2.2.1 _ h2) (C.2.2.2.2.1 _ h3) (C.2.2.2.2.1 _ h4) hf hlo hc hs hdg (kk H locs ls hu hl)
theorem nz {v : Int32} (h : v = 0 ∨ v = 1) : narrow .boolean (.int v) = .int v := by rcases h with rfl | rfl <;> rfl
end VCALL
/-- a method's contract from its walk -/
theorem uMet {l : Launch} {y : MethodName} {cc : ByteArray} {maxL mc ms : Nat} {rty : Option FieldType} {rm : Room} {D : UD} {bs : Nat} {u : UH} {As : List Value} {Qc : Array Value → State → Outcome → State → Prop} (hy : plainName y.cls = true) (hfit : (lg_sl As).length ≤ maxL)
    (body : ∀ (X : UX) (tw : Nat), X.2.1 = l → uCx X D bs tw cc maxL y.cls rty → X.2.2.2.2.2.2.2.1.name = y.name → VV X D bs u rm maxL 0 0 (MQ X.2.2.2.2.2.2.1 Qc X.2.2.2.2.2.1 X.2.2.2.1 mc ms (uA bs u)) u 0 (lv_args 0 As) []) :
    Met l y (wz y cc maxL rty) rm (va_Pc As (uIn D bs u)) Qc mc ms (uA bs u) := by
  refine Met.ofW (cc := cc) (maxL := maxL) (ret := rty) hy rfl ?_
  intro p e s m args below meth c s₁ B hml hv
  obtain ⟨rfl, hin, hK, hEx, tw, hST⟩ := hv
  have hts := atoms_spec (ws := wz y cc maxL rty) B.pre
  have hown : s.vm.findClass y.cls = some m.cls := findClass_of_methodNamed B.named
  have hn := (name_of_methodNamed B.named B.method).1
  have hl := lv_entry As (n := maxL) hfit
  rw [lg_entry_eq]
  exact body (p, l, e, s, m, As.toArray, below, meth, c) tw rfl ⟨B.exec, B.bytes, hml, hown, fun w hw => hts w (List.mem_cons_of_mem _ hw), B.returns, B.notSynchronized, hK, hST, hEx⟩ hn s.heap [] _ ⟨hin, va_S.rf, fun a ha => Or.inl ⟨a, ha, rfl⟩, hin.1.symm⟩ hl
