/-! THE CLAIM OUT OF ONE WALK OF THE LAW'S BODY. Your part is whole_start (and what it stands on); all else here is the same for every law, but numbers. -/
def R_law : String := "HeaderSpaceNetworkLaw"
def lw_P (b : Addr) (xs : List Int32) (args : Array Value) (s : State) : Prop := args = #[.ref b] ∧ s.IntsAt b xs ∧ xs.length ≤ 3584 ∧ (Jvm.Cond.and given_1 narrow_1).before args s = true
def lw_Q (_ : Array Value) (s : State) (o : Outcome) (t : State) : Prop := o = .returned (some (.int 1)) ∧ Framed s o t [] 600000 7302250
def lw_Z (below : List Frame) (a : Array Value) (s : State) : State → Prop := fun t => ∃ o, t.status = .running ∧ Ended t below o ∧ lw_Q a s o t
/-- the law's own end, with 1 on the stack, nothing written that was there before, its room as the claim has it -/
theorem lw_ret {p : Program} {l : Launch} {e : Env} {s : State} {m : MethodId} {below : List Frame} {meth : Method} {c : Code} {b : Nat} (hx : p.tables.exec = Jvm.exec) (hb : c.code = code) (hr : meth.sig.returnType = ret) (hlocks : meth.locks = false) {pc : Nat} {H : Heap} {ls : Array Slot} (hdg : decode code pc = .ok (.ireturn, 1)) : W p l e room_1 s m #[Value.ref b] below meth c H [] 600000 7302250 (lw_Z below #[Value.ref b] s) (F0 m pc ls [.int 1]) := by
  intro T hT X
  obtain ⟨fs, hret, hrun, hended, hW, hframe⟩ := X.leave (v := some (.int 1)) (hlocks := hlocks) (fun h => by rw [hr] at h; cases h)
  have hmeth' : T.vm.method? m = some meth := X.method'
  refine ⟨T.setFrames fs, ?_, .returned (some (.int 1)), hrun, hended, rfl, ⟨_, rfl⟩, hW, hframe⟩
  jvm_step X.here [X.here.top, hx, hb, hdg, hmeth', hr, ret, narrow_b1]
  (try refine ⟨rfl, ?_⟩); (try refine ⟨rfl, ?_⟩)
  first | (intro acts; rw [hret _ acts rfl rfl rfl]) | rw [hret _ _ rfl rfl rfl]
  exact Steps.refl _
/-- what holds at the law's entry: the machine, the code, the tables' words (any of lw_tbl by 'hts w (by decide +kernel)'), the script of L ints xs at the cell b, what the Statement gives of the start (any of its parts by flat_of_before) -/
def lw_At (p : Program) (s : State) (m : MethodId) (meth : Method) (c : Code) (b L : Nat) (xs : Nat → Int32) : Prop :=
  p.tables.exec = Jvm.exec ∧ c.code = code ∧ meth.sig.returnType = ret ∧ c.maxLocals = 4 ∧ s.vm.findClass R_law = some m.cls ∧ (∀ w ∈ lw_tbl, w.before #[Value.ref b] s = true) ∧ va_X b L xs s s.heap ∧ b < s.heap.size ∧ meth.locks = false ∧ (Jvm.Cond.and given_1 narrow_1).before #[Value.ref b] s = true
/-! LEVEL 3: the law -/
theorem arrP {args : Array Value} {s : State} {ty : FieldType} (h : (Cond.arrayClass ty).before args s = true) : ∃ cA, ArrOfT s cA ty ∧ s.vm.findClass ("[" ++ ty.toString) = some cA := by
  obtain ⟨cA, kA, comp, hf, hk, hkd⟩ := Cond.arrayClass_spec h
  exact ⟨cA, fun n z => ⟨fun k h => (by cases h), kA, hk, comp, hkd⟩, hf⟩
theorem arrO {s : State} {C : String} (h : va_AO C s) : ∃ cA, ArrOfT s cA (.object C) ∧ va_RA s cA (.object C) := by
  obtain ⟨comp, cA, kA, hf, _, hk, hkd, hn⟩ := Cond.arrayOver_spec h
  exact ⟨cA, fun n z => ⟨fun k h => (by cases h), kA, hk, comp, hkd⟩, kA, comp, hk, hkd, hf, hn⟩
theorem lawD {s : State} {b : Nat} (hts : ∀ w ∈ lw_tbl, w.before #[Value.ref b] s = true) : ∃ D : UD, va_K D.1 vwCl (uTys D) s := by
  have hg : ∀ w ∈ lw_g, w.before #[Value.ref b] s = true := fun w hw => hts w (List.mem_filter.mp hw).1
  have hn : ∀ w ∈ lw_n, w.before #[Value.ref b] s = true := fun w hw => hts w (List.mem_filter.mp hw).1
  obtain ⟨c0, i0, k0⟩ := u_known (C := RX0) (T := TX0) (N := 11) (n := 11) hg inG0 (hg _ tw231)
  obtain ⟨c1, i1, k1⟩ := u_known (C := RX1) (T := TX1) (N := 2) (n := 2) hg inG1 (hg _ tw192)
  obtain ⟨c2, i2, k2⟩ := u_known (C := RX2) (T := TX2) (N := 4) (n := 4) hg inG2 (hg _ tw171)
  obtain ⟨c3, i3, k3⟩ := u_known (C := RX3) (T := TX3) (N := 4) (n := 4) hg inG3 (hg _ tw147)
  obtain ⟨c4, i4, k4⟩ := u_known (C := RX4) (T := TX4) (N := 4) (n := 4) hg inG4 (hg _ tw26)
  obtain ⟨c5, i5, k5⟩ := u_known (C := RX5) (T := TX5) (N := 4) (n := 4) hg inG5 (hg _ tw326)
  obtain ⟨c6, i6, k6⟩ := u_known (C := RX6) (T := TX6) (N := 8) (n := 8) hg inG6 (hg _ tw34)
  obtain ⟨c7, i7, k7⟩ := u_known (C := RX7) (T := TX7) (N := 2) (n := 2) hg inG7 (hg _ tw90)
  obtain ⟨c8, i8, k8⟩ := u_known (C := RX8) (T := TX8) (N := 2) (n := 2) hg inG8 (hg _ tw310)
  obtain ⟨c9, i9, k9⟩ := u_known (C := RX9) (T := TX9) (N := 9) (n := 9) hg inG9 (hg _ tw272)
  obtain ⟨c10, i10, k10⟩ := u_known (C := RX10) (T := TX10) (N := 5) (n := 5) hg inG10 (hg _ tw206)
  obtain ⟨c11, i11, k11⟩ := u_known (C := RX11) (T := TX11) (N := 12) (n := 12) hg inG11 (hg _ tw18)
  obtain ⟨c12, i12, k12⟩ := u_known (C := RX12) (T := TX12) (N := 33) (n := 33) hg inG12 (hg _ tw895)
  obtain ⟨a0, p0, q0⟩ := arrP (hg _ tw89)
  obtain ⟨a1, p1, q1⟩ := arrP (hg _ tw190)
  obtain ⟨a2, p2, q2⟩ := arrP (hg _ tw308)
  obtain ⟨a3, p3, q3⟩ := arrP (hg _ tw1004)
  obtain ⟨a4, p4, q4⟩ := arrO (va_AO.of (hn _ tw325))
  obtain ⟨a5, p5, q5⟩ := arrO (va_AO.of (hn _ tw96))
  obtain ⟨a6, p6, q6⟩ := arrO (va_AO.of (hn _ tw32))
  refine ⟨((fun k => [c0, c1, c2, c3, c4, c5, c6, c7, c8, c9, c10, c11, c12].getD k c0, fun k => [i0, i1, i2, i3, i4, i5, i6, i7, i8, i9, i10, i11, i12].getD k i0), fun t => [a0, a1, a2, a3, a4, a5, a6].getD (t - 20) a0), ?_, ?_⟩
  · intro k q hq
    match k, hq with
    | 0, hq => cases hq; exact k0
    | 1, hq => cases hq; exact k1
    | 2, hq => cases hq; exact k2
    | 3, hq => cases hq; exact k3
    | 4, hq => cases hq; exact k4
    | 5, hq => cases hq; exact k5
    | 6, hq => cases hq; exact k6
    | 7, hq => cases hq; exact k7
    | 8, hq => cases hq; exact k8
    | 9, hq => cases hq; exact k9
    | 10, hq => cases hq; exact k10
    | 11, hq => cases hq; exact k11
    | 12, hq => cases hq; exact k12
    | k + 13, hq => simp [vwCl] at hq
  · intro k q hq
    match k, hq with
    | 0, hq => cases hq; exact ⟨p0, q0⟩
    | 1, hq => cases hq; exact ⟨p1, q1⟩
    | 2, hq => cases hq; exact ⟨p2, q2⟩
    | 3, hq => cases hq; exact ⟨p3, q3⟩
    | 4, hq => cases hq; exact ⟨p4, q4⟩
    | 5, hq => cases hq; exact ⟨p5, q5⟩
    | 6, hq => cases hq; exact ⟨p6, q6⟩
    | k + 7, hq => simp [uTys] at hq
theorem lawEx {s : State} {b : Nat} (hts : ∀ w ∈ lw_tbl, w.before #[Value.ref b] s = true) : uEx s := by
  intro w hw
  have h0 := hts w (List.mem_filter.mp hw).1
  have h1 := (List.mem_filter.mp hw).2
  cases w with
  | methodLinkNest a i x hh => exact va_Nw.of rfl h0
  | fieldLinkNest a i b n d hh => exact va_Nw.of rfl h0
  | arrayOver ty =>
    cases ty with
    | object C => exact va_AO.of h0
    | _ => cases h1
  | _ => cases h1
theorem eql {args : Array Value} {s : State} {t : Term} {z : Int64} (h : (Cond.eq t (.long z)).before args s = true) : t.eval args s none [] s = some (.long z) := va_eqtl h
theorem lawST {s : State} {b : Nat} (hts : ∀ w ∈ lw_tbl, w.before #[Value.ref b] s = true) (hgv : (Jvm.Cond.and given_1 narrow_1).before #[Value.ref b] s = true) : ∃ tw, uST s.heap.size tw s s.heap := by
  have hs := flat_of_before _ hgv
  have harr : (Cond.arrayOf (Term.static "HeaderSpaceNetwork" "WITH_BIT" "[J") .long).before #[Value.ref b] s = true := hs _ (by decide +kernel)
  have hlen : (Cond.eq (.length (Term.static "HeaderSpaceNetwork" "WITH_BIT" "[J")) (.int 5)).before #[Value.ref b] s = true := hs _ (by decide +kernel)
  have h0 : (Cond.eq (.elem (Term.static "HeaderSpaceNetwork" "WITH_BIT" "[J") (.int 0)) (.long 2863311530)).before #[Value.ref b] s = true := hs _ (by decide +kernel)
  have h1 : (Cond.eq (.elem (Term.static "HeaderSpaceNetwork" "WITH_BIT" "[J") (.int 1)) (.long 3435973836)).before #[Value.ref b] s = true := hs _ (by decide +kernel)
  have h2 : (Cond.eq (.elem (Term.static "HeaderSpaceNetwork" "WITH_BIT" "[J") (.int 2)) (.long 4042322160)).before #[Value.ref b] s = true := hs _ (by decide +kernel)
  have h3 : (Cond.eq (.elem (Term.static "HeaderSpaceNetwork" "WITH_BIT" "[J") (.int 3)) (.long 4278255360)).before #[Value.ref b] s = true := hs _ (by decide +kernel)
  have h4 : (Cond.eq (.elem (Term.static "HeaderSpaceNetwork" "WITH_BIT" "[J") (.int 4)) (.long 4294901760)).before #[Value.ref b] s = true := hs _ (by decide +kernel)
  have hA : ∀ a : Nat, a < s.heap.size → ¬ (fun q : Nat => s.heap.size ≤ q) a := fun a h1 h2 => Nat.not_le.mpr h1 h2
  obtain ⟨t, ht, hT⟩ := va_Tof (N := 5) (f := fun j => .long (uWB j)) (A := fun q => s.heap.size ≤ q) (by decide) harr (va_eqt hlen) (fun j hj => by
    rcases (show j = 0 ∨ j = 1 ∨ j = 2 ∨ j = 3 ∨ j = 4 by omega) with rfl | rfl | rfl | rfl | rfl
    · exact eql h0
    · exact eql h1
    · exact eql h2
    · exact eql h3
    · exact eql h4) hA
  exact ⟨t, va_Zof (hts _ tw44) (hts _ (List.mem_filter.mp tw1).1) ht hA, hT⟩
