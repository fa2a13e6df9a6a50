set_option maxRecDepth 100000 in
set_option maxHeartbeats 4000000 in
theorem mX12_hits {l : Launch} {D : UD} {bs : Nat} {a0 : Nat} {x1 : Int32} {x2 : Int32} {u0 : UH} {r : Int32} {v : UH} (h : fX12_hits a0 x1 x2 u0 = some (r, v)) : Met l yX12_hits (wz yX12_hits cX12_hits 4 (some .int)) rmX12_hits (va_Pc [.ref (bs + a0), .int x1, .int x2] (uIn D bs u0)) (uQi D bs u0 v r) 0 0 (uA bs u0) := by
  refine uMet (by decide) (Nat.le_of_ble_eq_true rfl) ?_
  intro X tw hX C hin
  have C : uCx X D bs tw cX12_hits 4 RX12 (some .int) := C
  have hin : X.2.2.2.2.2.2.2.1.name = "hits" := hin
  refine v_L [(0, .ref (bs + a0)), (1, .int x1), (2, .int x2)] rfl ?_
  unfold fX12_hits at h
  refine v_aload_n C 0 dX12_hits_0 rfl rfl ?_
  refine v_iload_n C 1 dX12_hits_1 rfl rfl ?_
  refine v_iload_n C 2 dX12_hits_2 rfl rfl ?_
  obtain ⟨y1, h1, h⟩ := ob_some h
  obtain ⟨hkd, h1⟩ := kd_some h1
  refine v_goi (rn_V C gcX12_139 (RX12, TX12, 33) rfl rfl (by decide) hkd (mX12_ruleBarred h1) ⟨rfl, rfl⟩ rfl ⟨Nat.le_of_ble_eq_true rfl, Nat.le_of_ble_eq_true rfl⟩ (rest := []) rfl (Nat.le_of_ble_eq_true rfl) ⟨Nat.le_of_ble_eq_true rfl, Nat.le_of_ble_eq_true rfl⟩ dX12_hits_3) ?_
  refine v_istore_n C [(3, .int y1), (0, .ref (bs + a0)), (1, .int x1), (2, .int x2)] dX12_hits_6 rfl (by decide) rfl ?_
  refine v_iload_n C 0 dX12_hits_7 rfl rfl ?_
  refine v_ifge C 13 dX12_hits_8 (by decide) h (fun _ h => ?_) (fun _ h => ?_)
  · refine v_aload_n C 1 dX12_hits_13 rfl rfl ?_
    obtain ⟨u2, h1, h⟩ := ob_some h
    obtain ⟨hkd, h1⟩ := kd_some h1
    refine v_gov (rn_V C gcX12_179 (RX12, TX12, 33) rfl rfl (by decide) hkd (mX12_spreadAll h1) ⟨rfl, rfl⟩ rfl ⟨Nat.le_of_ble_eq_true rfl, Nat.le_of_ble_eq_true rfl⟩ (rest := []) rfl (Nat.le_of_ble_eq_true rfl) ⟨Nat.le_of_ble_eq_true rfl, Nat.le_of_ble_eq_true rfl⟩ dX12_hits_14) ?_
    refine v_aload_n C 1 dX12_hits_17 rfl rfl ?_
    refine v_iload_n C 2 dX12_hits_18 rfl rfl ?_
    refine v_iload_n C 3 dX12_hits_19 rfl rfl ?_
    obtain ⟨y3, h1, h⟩ := ob_some h
    obtain ⟨hkd, h1⟩ := kd_some h1
    refine v_goi (rn_V C gcX12_182 (RX12, TX12, 33) rfl rfl (by decide) hkd (mX12_handledBy h1) ⟨rfl, rfl⟩ rfl ⟨Nat.le_of_ble_eq_true rfl, Nat.le_of_ble_eq_true rfl⟩ (rest := []) rfl (Nat.le_of_ble_eq_true rfl) ⟨Nat.le_of_ble_eq_true rfl, Nat.le_of_ble_eq_true rfl⟩ dX12_hits_20) ?_
    exact v_iret C dX12_hits_23 (Prod.mk.inj (Option.some.inj h)).2 (Prod.mk.inj (Option.some.inj h)).1
  · refine v_iload_n C 0 dX12_hits_11 rfl rfl ?_
    exact v_iret C dX12_hits_12 (Prod.mk.inj (Option.some.inj h)).2 (Prod.mk.inj (Option.some.inj h)).1
set_option maxRecDepth 100000 in
set_option maxHeartbeats 4000000 in
theorem wX12_cubeOf_B5 {X : UX} {D : UD} {bs tw : Nat} {u0 : UH} {r : Int64} (C : uCx X D bs tw cX12_cubeOf 6 RX12 (some .long)) (hin : X.2.2.2.2.2.2.2.1.name = "cubeOf") {a0 : Nat} {x1 : Int32} {x2 : Int32}  {G : Int64 → Prop} {k : Int64 → Int32 → Option Int64} (hk : ∀ (x3 : Int64) (x5 : Int32)  e, k x3 x5  = some e → G e → VV X D bs u0 rmX12_cubeOf 6 0 0 (MQ X.2.2.2.2.2.2.1 (uQl D bs u0 u0 r) X.2.2.2.2.2.1 X.2.2.2.1 0 0 (uA bs u0)) u0 5 [(0, .ref (bs + a0)), (1, .int x1), (2, .int x2), (3, .long x3), (5, .int x5)] []) (hex : ∀ (x3 : Int64) , G x3 → VV X D bs u0 rmX12_cubeOf 6 0 0 (MQ X.2.2.2.2.2.2.1 (uQl D bs u0 u0 r) X.2.2.2.2.2.1 X.2.2.2.1 0 0 (uA bs u0)) u0 41 [(3, .long x3)] [])  : ∀ (x3 : Int64) (x5 : Int32)  e, fX12_cubeOf_B5 a0 x1 x2 u0 k x3 x5  = some e → G e → VV X D bs u0 rmX12_cubeOf 6 0 0 (MQ X.2.2.2.2.2.2.1 (uQl D bs u0 u0 r) X.2.2.2.2.2.1 X.2.2.2.1 0 0 (uA bs u0)) u0 5 [(0, .ref (bs + a0)), (1, .int x1), (2, .int x2), (3, .long x3), (5, .int x5)] [] := by
  intro x3 x5  e h g
  unfold fX12_cubeOf_B5 at h
  refine v_iload C 4 dX12_cubeOf_5 rfl ?_
  refine v_aload_n C 0 dX12_cubeOf_7 rfl rfl ?_
  obtain ⟨y1, h1, h⟩ := ob_some h
  obtain ⟨hkd, h1⟩ := kd_some h1
  refine v_goi (rn_V C gcX12_98 (RX12, TX12, 33) rfl rfl (by decide) hkd (mX12_headers h1) ⟨rfl, rfl⟩ rfl ⟨Nat.le_of_ble_eq_true rfl, Nat.le_of_ble_eq_true rfl⟩ (rest := [.int x5]) rfl (Nat.le_of_ble_eq_true rfl) ⟨Nat.le_of_ble_eq_true rfl, Nat.le_of_ble_eq_true rfl⟩ dX12_cubeOf_8) ?_
  refine v_icmpge C 41 dX12_cubeOf_11 (by decide) h (fun _ h => ?_) (fun _ h => ?_)
  · refine v_sub [(3, .long x3)] [3] rfl ?_
    exact hex x3 ((Option.some.inj h).symm ▸ g)
  · refine v_lload_n C 3 dX12_cubeOf_14 rfl rfl ?_
    refine v_iload C 4 dX12_cubeOf_15 rfl ?_
    refine v_iload_n C 1 dX12_cubeOf_17 rfl rfl ?_
    refine v_iand C dX12_cubeOf_18 ?_
    refine v_iload_n C 2 dX12_cubeOf_19 rfl rfl ?_
    refine v_iload_n C 1 dX12_cubeOf_20 rfl rfl ?_
    refine v_iand C dX12_cubeOf_21 ?_
    refine v_icmpne C 32 dX12_cubeOf_22 (by decide) h (fun _ h => ?_) (fun _ h => ?_)
    · refine v_lconst C (0 : Int64) dX12_cubeOf_32 (by decide) ?_
      refine v_lor C dX12_cubeOf_33 ?_
      refine v_ltl h (fun y2 h => ?_)
      refine v_lstore_n C [(3, .long y2), (0, .ref (bs + a0)), (1, .int x1), (2, .int x2), (5, .int x5)] dX12_cubeOf_34 rfl (by decide) rfl ?_
      refine v_iinc C 4 (x5 + (1 : Int32)) [(5, .int (x5 + (1 : Int32))), (3, .long y2), (0, .ref (bs + a0)), (1, .int x1), (2, .int x2)] dX12_cubeOf_35 rfl rfl (by decide) rfl ?_
      refine v_goto C 5 dX12_cubeOf_38 (by decide) ?_
      refine v_sub [(0, .ref (bs + a0)), (1, .int x1), (2, .int x2), (3, .long y2), (5, .int (x5 + (1 : Int32)))] [2, 3, 4, 1, 0] rfl ?_
      exact hk y2 (x5 + (1 : Int32)) _ h g
    · refine v_lconst C (1 : Int64) dX12_cubeOf_25 (by decide) ?_
      refine v_iload C 4 dX12_cubeOf_26 rfl ?_
      refine v_lshl C dX12_cubeOf_28 ?_
      refine v_goto C 33 dX12_cubeOf_29 (by decide) ?_
      refine v_lor C dX12_cubeOf_33 ?_
      refine v_ltl h (fun y3 h => ?_)
      refine v_lstore_n C [(3, .long y3), (0, .ref (bs + a0)), (1, .int x1), (2, .int x2), (5, .int x5)] dX12_cubeOf_34 rfl (by decide) rfl ?_
      refine v_iinc C 4 (x5 + (1 : Int32)) [(5, .int (x5 + (1 : Int32))), (3, .long y3), (0, .ref (bs + a0)), (1, .int x1), (2, .int x2)] dX12_cubeOf_35 rfl rfl (by decide) rfl ?_
      refine v_goto C 5 dX12_cubeOf_38 (by decide) ?_
      refine v_sub [(0, .ref (bs + a0)), (1, .int x1), (2, .int x2), (3, .long y3), (5, .int (x5 + (1 : Int32)))] [2, 3, 4, 1, 0] rfl ?_
      exact hk y3 (x5 + (1 : Int32)) _ h g
set_option maxRecDepth 100000 in
set_option maxHeartbeats 4000000 in
theorem mX12_cubeOf {l : Launch} {D : UD} {bs : Nat} {a0 : Nat} {x1 : Int32} {x2 : Int32} {u0 : UH} {r : Int64} (h : fX12_cubeOf a0 x1 x2 u0 = some r) : Met l yX12_cubeOf (wz yX12_cubeOf cX12_cubeOf 6 (some .long)) rmX12_cubeOf (va_Pc [.ref (bs + a0), .int x1, .int x2] (uIn D bs u0)) (uQl D bs u0 u0 r) 0 0 (uA bs u0) := by
  refine uMet (by decide) (Nat.le_of_ble_eq_true rfl) ?_
  intro X tw hX C hin
  have C : uCx X D bs tw cX12_cubeOf 6 RX12 (some .long) := C
  have hin : X.2.2.2.2.2.2.2.1.name = "cubeOf" := hin
  refine v_L [(0, .ref (bs + a0)), (1, .int x1), (2, .int x2)] rfl ?_
  unfold fX12_cubeOf at h
  refine v_lconst C (0 : Int64) dX12_cubeOf_0 (by decide) ?_
  refine v_lstore_n C [(3, .long (0 : Int64)), (0, .ref (bs + a0)), (1, .int x1), (2, .int x2)] dX12_cubeOf_1 rfl (by decide) rfl ?_
  refine v_iconst C (0 : Int32) dX12_cubeOf_2 (by decide) ?_
  refine v_istore C [(5, .int (0 : Int32)), (3, .long (0 : Int64)), (0, .ref (bs + a0)), (1, .int x1), (2, .int x2)] dX12_cubeOf_3 (by decide) rfl ?_
  refine v_sub [(0, .ref (bs + a0)), (1, .int x1), (2, .int x2), (3, .long (0 : Int64)), (5, .int (0 : Int32))] [2, 3, 4, 1, 0] rfl ?_
  refine it2_O (V := fun x3 x5 => VV X D bs u0 rmX12_cubeOf 6 0 0 (MQ X.2.2.2.2.2.2.1 (uQl D bs u0 u0 r) X.2.2.2.2.2.1 X.2.2.2.1 0 0 (uA bs u0)) u0 5 [(0, .ref (bs + a0)), (1, .int x1), (2, .int x2), (3, .long x3), (5, .int x5)] []) h (fun k_ hk_ => wX12_cubeOf_B5 C hin hk_ ?_ )
  intro z5 h
  try dsimp only [Sum.elim_inl] at h
  refine v_lload_n C 0 dX12_cubeOf_41 rfl rfl ?_
  exact v_lret C dX12_cubeOf_42 rfl (Option.some.inj h)
set_option maxRecDepth 100000 in
set_option maxHeartbeats 4000000 in
theorem wX12_cube_B60 {X : UX} {D : UD} {bs tw : Nat} {u0 : UH} {r : Int32} {v : UH} (C : uCx X D bs tw cX12_cube 13 RX12 (some .int)) (hin : X.2.2.2.2.2.2.2.1.name = "cube") {a0 : Nat} {x3 : Int32} {x4 : Int32} {x5 : Int64} {x7 : Int64} {x9 : Int32} {u : UH} {G : Int32 → Prop} {k : Int32 → Option Int32} (hk : ∀ (x10 : Int32)  e, k x10  = some e → G e → VV X D bs u0 rmX12_cube 13 0 0 (MQ X.2.2.2.2.2.2.1 (uQi D bs u0 v r) X.2.2.2.2.2.1 X.2.2.2.1 0 0 (uA bs u0)) u 60 [(0, .ref (bs + a0)), (3, .int x3), (4, .int x4), (5, .long x5), (7, .long x7), (9, .int x9), (10, .int x10)] []) (hex : ∀ (x10 : Int32) , G x10 → VV X D bs u0 rmX12_cube 13 0 0 (MQ X.2.2.2.2.2.2.1 (uQi D bs u0 v r) X.2.2.2.2.2.1 X.2.2.2.1 0 0 (uA bs u0)) u 78 [(0, .ref (bs + a0)), (3, .int x3), (4, .int x4), (5, .long x5), (7, .long x7), (9, .int x9), (10, .int x10)] [])  : ∀ (x10 : Int32)  e, fX12_cube_B60 x7 u k x10  = some e → G e → VV X D bs u0 rmX12_cube 13 0 0 (MQ X.2.2.2.2.2.2.1 (uQi D bs u0 v r) X.2.2.2.2.2.1 X.2.2.2.1 0 0 (uA bs u0)) u 60 [(0, .ref (bs + a0)), (3, .int x3), (4, .int x4), (5, .long x5), (7, .long x7), (9, .int x9), (10, .int x10)] [] := by
  intro x10  e h g
  unfold fX12_cube_B60 at h
  refine v_lload C 4 dX12_cube_60 rfl ?_
  refine v_iload C 6 dX12_cube_62 rfl ?_
  refine v_lshr C dX12_cube_64 ?_
  refine v_lconst C (1 : Int64) dX12_cube_65 (by decide) ?_
  refine v_land C dX12_cube_66 ?_
  refine v_lconst C (0 : Int64) dX12_cube_67 (by decide) ?_
  refine v_lcmpne C 78 dX12_cube_68 dX12_cube_69 (by decide) h (fun _ h => ?_) (fun _ h => ?_)
  · refine v_sub [(0, .ref (bs + a0)), (3, .int x3), (4, .int x4), (5, .long x5), (7, .long x7), (9, .int x9), (10, .int x10)] [0, 1, 2, 3, 4, 5, 6] rfl ?_
    exact hex x10 ((Option.some.inj h).symm ▸ g)
  · refine v_iinc C 6 (x10 + (1 : Int32)) [(10, .int (x10 + (1 : Int32))), (0, .ref (bs + a0)), (3, .int x3), (4, .int x4), (5, .long x5), (7, .long x7), (9, .int x9)] dX12_cube_72 rfl rfl (by decide) rfl ?_
    refine v_goto C 60 dX12_cube_75 (by decide) ?_
    refine v_sub [(0, .ref (bs + a0)), (3, .int x3), (4, .int x4), (5, .long x5), (7, .long x7), (9, .int x9), (10, .int (x10 + (1 : Int32)))] [1, 2, 3, 4, 5, 6, 0] rfl ?_
    exact hk (x10 + (1 : Int32)) _ h g
set_option maxRecDepth 100000 in
set_option maxHeartbeats 4000000 in
theorem wX12_cube_B89 {X : UX} {D : UD} {bs tw : Nat} {u0 : UH} {r : Int32} {v : UH} (C : uCx X D bs tw cX12_cube 13 RX12 (some .int)) (hin : X.2.2.2.2.2.2.2.1.name = "cube") {a0 : Nat} {x3 : Int32} {x4 : Int32} {x5 : Int64} {x7 : Int64} {x9 : Int32} {x10 : Int32} {u : UH} {G : Int32 → Prop} {k : Int32 → Int32 → Option Int32} (hk : ∀ (x11 : Int32) (x12 : Int32)  e, k x11 x12  = some e → G e → VV X D bs u0 rmX12_cube 13 0 0 (MQ X.2.2.2.2.2.2.1 (uQi D bs u0 v r) X.2.2.2.2.2.1 X.2.2.2.1 0 0 (uA bs u0)) u 89 [(0, .ref (bs + a0)), (3, .int x3), (4, .int x4), (5, .long x5), (7, .long x7), (9, .int x9), (10, .int x10), (11, .int x11), (12, .int x12)] []) (hex : ∀ (x11 : Int32) , G x11 → VV X D bs u0 rmX12_cube 13 0 0 (MQ X.2.2.2.2.2.2.1 (uQi D bs u0 v r) X.2.2.2.2.2.1 X.2.2.2.1 0 0 (uA bs u0)) u 147 [(0, .ref (bs + a0)), (3, .int x3), (4, .int x4), (5, .long x5), (7, .long x7), (9, .int x9), (10, .int x10), (11, .int x11)] [])  : ∀ (x11 : Int32) (x12 : Int32)  e, fX12_cube_B89 a0 x5 x10 u k x11 x12  = some e → G e → VV X D bs u0 rmX12_cube 13 0 0 (MQ X.2.2.2.2.2.2.1 (uQi D bs u0 v r) X.2.2.2.2.2.1 X.2.2.2.1 0 0 (uA bs u0)) u 89 [(0, .ref (bs + a0)), (3, .int x3), (4, .int x4), (5, .long x5), (7, .long x7), (9, .int x9), (10, .int x10), (11, .int x11), (12, .int x12)] [] := by
  intro x11 x12  e h g
  unfold fX12_cube_B89 at h
  refine v_iload C 8 dX12_cube_89 rfl ?_
  refine v_aload_n C 0 dX12_cube_91 rfl rfl ?_
  refine v_getI C fdX12_67 dX12_cube_92 h (fun y10 h => ?_)
  refine v_icmpge C 147 dX12_cube_95 (by decide) h (fun _ h => ?_) (fun _ h => ?_)
  · refine v_sub [(0, .ref (bs + a0)), (3, .int x3), (4, .int x4), (5, .long x5), (7, .long x7), (9, .int x9), (10, .int x10), (11, .int x11)] [0, 1, 2, 3, 4, 5, 6, 7] rfl ?_
    exact hex x11 ((Option.some.inj h).symm ▸ g)
  · refine v_aload_n C 0 dX12_cube_98 rfl rfl ?_
    refine v_iload C 7 dX12_cube_99 rfl ?_
    refine v_iconst C (1 : Int32) dX12_cube_101 (by decide) ?_
    refine v_iload C 8 dX12_cube_102 rfl ?_
    refine v_ishl C dX12_cube_104 ?_
    refine v_iconst C (-1 : Int32) dX12_cube_105 (by decide) ?_
    refine v_ixor C dX12_cube_106 ?_
    refine v_iand C dX12_cube_107 ?_
    refine v_iload C 6 dX12_cube_108 rfl ?_
    obtain ⟨y11, h1, h⟩ := ob_some h
    obtain ⟨hkd, h1⟩ := kd_some h1
    refine v_gol (rn_V C gcX12_185 (RX12, TX12, 33) rfl rfl (by decide) hkd (mX12_cubeOf h1) ⟨rfl, rfl⟩ rfl ⟨Nat.le_of_ble_eq_true rfl, Nat.le_of_ble_eq_true rfl⟩ (rest := []) rfl (Nat.le_of_ble_eq_true rfl) ⟨Nat.le_of_ble_eq_true rfl, Nat.le_of_ble_eq_true rfl⟩ dX12_cube_110) ?_
    refine v_lload C 3 dX12_cube_113 rfl ?_
    refine v_ldc2 C (-1 : Int64) tw1153 dX12_cube_115 ?_
    refine v_lxor C dX12_cube_118 ?_
    refine v_land C dX12_cube_119 ?_
    refine v_lconst C (0 : Int64) dX12_cube_120 (by decide) ?_
    refine v_lcmpne C 137 dX12_cube_121 dX12_cube_122 (by decide) h (fun _ h => ?_) (fun _ h => ?_)
    · refine v_iload C 7 dX12_cube_137 rfl ?_
      refine v_istore C [(11, .int x11), (0, .ref (bs + a0)), (3, .int x3), (4, .int x4), (5, .long x5), (7, .long x7), (9, .int x9), (10, .int x10), (12, .int x12)] dX12_cube_139 (by decide) rfl ?_
      refine v_iinc C 8 (x12 + (1 : Int32)) [(12, .int (x12 + (1 : Int32))), (11, .int x11), (0, .ref (bs + a0)), (3, .int x3), (4, .int x4), (5, .long x5), (7, .long x7), (9, .int x9), (10, .int x10)] dX12_cube_141 rfl rfl (by decide) rfl ?_
      refine v_goto C 89 dX12_cube_144 (by decide) ?_
      refine v_sub [(0, .ref (bs + a0)), (3, .int x3), (4, .int x4), (5, .long x5), (7, .long x7), (9, .int x9), (10, .int x10), (11, .int x11), (12, .int (x12 + (1 : Int32)))] [2, 3, 4, 5, 6, 7, 8, 1, 0] rfl ?_
      exact hk x11 (x12 + (1 : Int32)) _ h g
    · refine v_iload C 7 dX12_cube_125 rfl ?_
      refine v_iconst C (1 : Int32) dX12_cube_127 (by decide) ?_
      refine v_iload C 8 dX12_cube_128 rfl ?_
      refine v_ishl C dX12_cube_130 ?_
      refine v_iconst C (-1 : Int32) dX12_cube_131 (by decide) ?_
      refine v_ixor C dX12_cube_132 ?_
      refine v_iand C dX12_cube_133 ?_
      refine v_goto C 139 dX12_cube_134 (by decide) ?_
      refine v_lti h (fun y12 h => ?_)
      refine v_istore C [(11, .int y12), (0, .ref (bs + a0)), (3, .int x3), (4, .int x4), (5, .long x5), (7, .long x7), (9, .int x9), (10, .int x10), (12, .int x12)] dX12_cube_139 (by decide) rfl ?_
      refine v_iinc C 8 (x12 + (1 : Int32)) [(12, .int (x12 + (1 : Int32))), (11, .int y12), (0, .ref (bs + a0)), (3, .int x3), (4, .int x4), (5, .long x5), (7, .long x7), (9, .int x9), (10, .int x10)] dX12_cube_141 rfl rfl (by decide) rfl ?_
      refine v_goto C 89 dX12_cube_144 (by decide) ?_
      refine v_sub [(0, .ref (bs + a0)), (3, .int x3), (4, .int x4), (5, .long x5), (7, .long x7), (9, .int x9), (10, .int x10), (11, .int y12), (12, .int (x12 + (1 : Int32)))] [2, 3, 4, 5, 6, 7, 8, 1, 0] rfl ?_
      exact hk y12 (x12 + (1 : Int32)) _ h g
set_option maxRecDepth 100000 in
set_option maxHeartbeats 4000000 in
theorem wX12_cube_B50 {X : UX} {D : UD} {bs tw : Nat} {u0 : UH} {r : Int32} {v : UH} (C : uCx X D bs tw cX12_cube 13 RX12 (some .int)) (hin : X.2.2.2.2.2.2.2.1.name = "cube") {a0 : Nat} {x3 : Int32} {x4 : Int32} {x5 : Int64} {u : UH} {G : (Unit ⊕ (Int32 × UH)) → Prop} {k : Int64 → Int32 → Option (Unit ⊕ (Int32 × UH))} (hk : ∀ (x7 : Int64) (x9 : Int32)  e, k x7 x9  = some e → G e → VV X D bs u0 rmX12_cube 13 0 0 (MQ X.2.2.2.2.2.2.1 (uQi D bs u0 v r) X.2.2.2.2.2.1 X.2.2.2.1 0 0 (uA bs u0)) u 50 [(0, .ref (bs + a0)), (3, .int x3), (4, .int x4), (5, .long x5), (7, .long x7), (9, .int x9)] []) (hex : G (Sum.inl ()) → VV X D bs u0 rmX12_cube 13 0 0 (MQ X.2.2.2.2.2.2.1 (uQi D bs u0 v r) X.2.2.2.2.2.1 X.2.2.2.1 0 0 (uA bs u0)) u 192 [] []) (hret : ∀ x, G (Sum.inr x) → x = (r, v)) : ∀ (x7 : Int64) (x9 : Int32)  e, fX12_cube_B50 a0 x3 x4 x5 u k x7 x9  = some e → G e → VV X D bs u0 rmX12_cube 13 0 0 (MQ X.2.2.2.2.2.2.1 (uQi D bs u0 v r) X.2.2.2.2.2.1 X.2.2.2.1 0 0 (uA bs u0)) u 50 [(0, .ref (bs + a0)), (3, .int x3), (4, .int x4), (5, .long x5), (7, .long x7), (9, .int x9)] [] := by
  intro x7 x9  e h g
  unfold fX12_cube_B50 at h
  refine v_lload C 4 dX12_cube_50 rfl ?_
  refine v_lconst C (0 : Int64) dX12_cube_52 (by decide) ?_
  refine v_lcmpeq C 192 dX12_cube_53 dX12_cube_54 (by decide) h (fun _ h => ?_) (fun _ h => ?_)
  · refine v_sub [] [] rfl ?_
    exact hex ((Option.some.inj h).symm ▸ g)
  · refine v_iconst C (0 : Int32) dX12_cube_57 (by decide) ?_
    refine v_istore C [(10, .int (0 : Int32)), (0, .ref (bs + a0)), (3, .int x3), (4, .int x4), (5, .long x5), (7, .long x7), (9, .int x9)] dX12_cube_58 (by decide) rfl ?_
    refine v_sub [(0, .ref (bs + a0)), (3, .int x3), (4, .int x4), (5, .long x5), (7, .long x7), (9, .int x9), (10, .int (0 : Int32))] [1, 2, 3, 4, 5, 6, 0] rfl ?_
    refine it1_O (V := fun x10 => VV X D bs u0 rmX12_cube 13 0 0 (MQ X.2.2.2.2.2.2.1 (uQi D bs u0 v r) X.2.2.2.2.2.1 X.2.2.2.1 0 0 (uA bs u0)) u 60 [(0, .ref (bs + a0)), (3, .int x3), (4, .int x4), (5, .long x5), (7, .long x7), (9, .int x9), (10, .int x10)] []) h (fun k_ hk_ => wX12_cube_B60 C hin hk_ ?_ )
    intro z7 h
    try dsimp only [Sum.elim_inl] at h
    refine v_aload_n C 0 dX12_cube_78 rfl rfl ?_
    obtain ⟨y8, h1, h⟩ := ob_some h
    obtain ⟨hkd, h1⟩ := kd_some h1
    refine v_goi (rn_V C gcX12_98 (RX12, TX12, 33) rfl rfl (by decide) hkd (mX12_headers h1) ⟨rfl, rfl⟩ rfl ⟨Nat.le_of_ble_eq_true rfl, Nat.le_of_ble_eq_true rfl⟩ (rest := []) rfl (Nat.le_of_ble_eq_true rfl) ⟨Nat.le_of_ble_eq_true rfl, Nat.le_of_ble_eq_true rfl⟩ dX12_cube_79) ?_
    refine v_iconst C (1 : Int32) dX12_cube_82 (by decide) ?_
    refine v_isub C dX12_cube_83 ?_
    refine v_lti h (fun y9 h => ?_)
    refine v_istore C [(11, .int y9), (0, .ref (bs + a0)), (3, .int x3), (4, .int x4), (5, .long x5), (7, .long x7), (9, .int x9), (10, .int z7)] dX12_cube_84 (by decide) rfl ?_
    refine v_iconst C (0 : Int32) dX12_cube_86 (by decide) ?_
    refine v_istore C [(12, .int (0 : Int32)), (11, .int y9), (0, .ref (bs + a0)), (3, .int x3), (4, .int x4), (5, .long x5), (7, .long x7), (9, .int x9), (10, .int z7)] dX12_cube_87 (by decide) rfl ?_
    refine v_sub [(0, .ref (bs + a0)), (3, .int x3), (4, .int x4), (5, .long x5), (7, .long x7), (9, .int x9), (10, .int z7), (11, .int y9), (12, .int (0 : Int32))] [2, 3, 4, 5, 6, 7, 8, 1, 0] rfl ?_
    refine it2_O (V := fun x11 x12 => VV X D bs u0 rmX12_cube 13 0 0 (MQ X.2.2.2.2.2.2.1 (uQi D bs u0 v r) X.2.2.2.2.2.1 X.2.2.2.1 0 0 (uA bs u0)) u 89 [(0, .ref (bs + a0)), (3, .int x3), (4, .int x4), (5, .long x5), (7, .long x7), (9, .int x9), (10, .int z7), (11, .int x11), (12, .int x12)] []) h (fun k_ hk_ => wX12_cube_B89 C hin hk_ ?_ )
    intro z11 h
    try dsimp only [Sum.elim_inl] at h
    refine v_iload C 5 dX12_cube_147 rfl ?_
    refine v_iload_n C 1 dX12_cube_149 rfl rfl ?_
    refine v_icmpne C 169 dX12_cube_150 (by decide) h (fun _ h => ?_) (fun _ h => ?_)
    · refine v_lload C 4 dX12_cube_169 rfl ?_
      refine v_aload_n C 0 dX12_cube_171 rfl rfl ?_
      refine v_iload C 7 dX12_cube_172 rfl ?_
      refine v_iload C 6 dX12_cube_174 rfl ?_
      obtain ⟨y12, h1, h⟩ := ob_some h
      obtain ⟨hkd, h1⟩ := kd_some h1
      refine v_gol (rn_V C gcX12_185 (RX12, TX12, 33) rfl rfl (by decide) hkd (mX12_cubeOf h1) ⟨rfl, rfl⟩ rfl ⟨Nat.le_of_ble_eq_true rfl, Nat.le_of_ble_eq_true rfl⟩ (rest := [.long x7]) rfl (Nat.le_of_ble_eq_true rfl) ⟨Nat.le_of_ble_eq_true rfl, Nat.le_of_ble_eq_true rfl⟩ dX12_cube_176) ?_
      refine v_ldc2 C (-1 : Int64) tw1153 dX12_cube_179 ?_
      refine v_lxor C dX12_cube_182 ?_
      refine v_land C dX12_cube_183 ?_
      refine v_ltl h (fun y13 h => ?_)
      refine v_lstore C [(7, .long y13), (0, .ref (bs + a0)), (3, .int x3), (4, .int x4), (5, .long x5), (9, .int x9), (10, .int z7), (11, .int z11)] dX12_cube_184 (by decide) rfl ?_
      refine v_iinc C 5 (x9 + (1 : Int32)) [(9, .int (x9 + (1 : Int32))), (7, .long y13), (0, .ref (bs + a0)), (3, .int x3), (4, .int x4), (5, .long x5), (10, .int z7), (11, .int z11)] dX12_cube_186 rfl rfl (by decide) rfl ?_
      refine v_goto C 50 dX12_cube_189 (by decide) ?_
      refine v_sub [(0, .ref (bs + a0)), (3, .int x3), (4, .int x4), (5, .long x5), (7, .long y13), (9, .int (x9 + (1 : Int32)))] [2, 3, 4, 5, 1, 0] rfl ?_
      exact hk y13 (x9 + (1 : Int32)) _ h g
    · refine v_iload C 2 dX12_cube_153 rfl ?_
      refine v_ifne C 163 dX12_cube_155 (by decide) h (fun _ h => ?_) (fun _ h => ?_)
      · refine v_iload C 6 dX12_cube_163 rfl ?_
        refine v_iload C 7 dX12_cube_165 rfl ?_
        refine v_iand C dX12_cube_167 ?_
        have h := hret (z7 &&& z11, u) ((Option.some.inj h).symm ▸ g)
        exact v_iret C dX12_cube_168 (Prod.mk.inj h).2 (Prod.mk.inj h).1
      · refine v_iload C 7 dX12_cube_158 rfl ?_
        refine v_goto C 168 dX12_cube_160 (by decide) ?_
        have h := hret (z11, u) ((Option.some.inj h).symm ▸ g)
        exact v_iret C dX12_cube_168 (Prod.mk.inj h).2 (Prod.mk.inj h).1
set_option maxRecDepth 100000 in
set_option maxHeartbeats 4000000 in
theorem mX12_cube {l : Launch} {D : UD} {bs : Nat} {a0 : Nat} {x1 : Int32} {x2 : Int32} {x3 : Int32} {x4 : Int32} {u0 : UH} {r : Int32} {v : UH} (h : fX12_cube a0 x1 x2 x3 x4 u0 = some (r, v)) : Met l yX12_cube (wz yX12_cube cX12_cube 13 (some .int)) rmX12_cube (va_Pc [.ref (bs + a0), .int x1, .int x2, .int x3, .int x4] (uIn D bs u0)) (uQi D bs u0 v r) 0 0 (uA bs u0) := by
  refine uMet (by decide) (Nat.le_of_ble_eq_true rfl) ?_
  intro X tw hX C hin
  have C : uCx X D bs tw cX12_cube 13 RX12 (some .int) := C
  have hin : X.2.2.2.2.2.2.2.1.name = "cube" := hin
  refine v_L [(0, .ref (bs + a0)), (1, .int x1), (2, .int x2), (3, .int x3), (4, .int x4)] rfl ?_
  unfold fX12_cube at h
  refine v_iload_n C 1 dX12_cube_0 rfl rfl ?_
  refine v_iload_n C 2 dX12_cube_1 rfl rfl ?_
  obtain ⟨y1, h1, h⟩ := ob_some h
  refine v_goi (rn_S C gcX12_106 (mX12_noPlace h1) ⟨rfl, rfl⟩ rfl ⟨Nat.le_of_ble_eq_true rfl, Nat.le_of_ble_eq_true rfl⟩ (rest := []) rfl (Nat.le_of_ble_eq_true rfl) ⟨Nat.le_of_ble_eq_true rfl, Nat.le_of_ble_eq_true rfl⟩ dX12_cube_2) ?_
  refine v_ifeq C 10 dX12_cube_5 (by decide) h (fun _ h => ?_) (fun _ h => ?_)
  · refine v_iload_n C 3 dX12_cube_10 rfl rfl ?_
    refine v_iflt C 24 dX12_cube_11 (by decide) h (fun _ h => ?_) (fun _ h => ?_)
    · refine v_bipush C (-3 : Int32) dX12_cube_24 (by decide) ?_
      exact v_iret C dX12_cube_26 (Prod.mk.inj (Option.some.inj h)).2 (Prod.mk.inj (Option.some.inj h)).1
    · refine v_iload C 4 dX12_cube_14 rfl ?_
      refine v_iconst C (0 : Int32) dX12_cube_16 (by decide) ?_
      refine v_iconst C (1 : Int32) dX12_cube_17 (by decide) ?_
      obtain ⟨y2, h1, h⟩ := ob_some h
      refine v_goi (rn_S C gcX12_94 (mX12_in h1) ⟨rfl, rfl⟩ rfl ⟨Nat.le_of_ble_eq_true rfl, Nat.le_of_ble_eq_true rfl⟩ (rest := []) rfl (Nat.le_of_ble_eq_true rfl) ⟨Nat.le_of_ble_eq_true rfl, Nat.le_of_ble_eq_true rfl⟩ dX12_cube_18) ?_
      refine v_ifne C 27 dX12_cube_21 (by decide) h (fun _ h => ?_) (fun _ h => ?_)
      · refine v_aload_n C 0 dX12_cube_27 rfl rfl ?_
        obtain ⟨u3, h1, h⟩ := ob_some h
        obtain ⟨hkd, h1⟩ := kd_some h1
        refine v_gov (rn_V C gcX12_179 (RX12, TX12, 33) rfl rfl (by decide) hkd (mX12_spreadAll h1) ⟨rfl, rfl⟩ rfl ⟨Nat.le_of_ble_eq_true rfl, Nat.le_of_ble_eq_true rfl⟩ (rest := []) rfl (Nat.le_of_ble_eq_true rfl) ⟨Nat.le_of_ble_eq_true rfl, Nat.le_of_ble_eq_true rfl⟩ dX12_cube_28) ?_
        refine v_aload_n C 0 dX12_cube_31 rfl rfl ?_
        refine v_getR C fdX12_22 dX12_cube_32 h (fun b4 h => ?_)
        refine v_iconst C (4 : Int32) dX12_cube_35 (by decide) ?_
        refine v_iload_n C 1 dX12_cube_36 rfl rfl ?_
        refine v_imul C dX12_cube_37 ?_
        refine v_iload_n C 2 dX12_cube_38 rfl rfl ?_
        refine v_iadd C dX12_cube_39 ?_
        refine v_ldJ C dX12_cube_40 h (fun y5 h => ?_)
        refine v_lstore C [(5, .long y5), (0, .ref (bs + a0)), (1, .int x1), (2, .int x2), (3, .int x3), (4, .int x4)] dX12_cube_41 (by decide) rfl ?_
        refine v_lload C 0 dX12_cube_43 rfl ?_
        refine v_lstore C [(7, .long y5), (5, .long y5), (0, .ref (bs + a0)), (1, .int x1), (2, .int x2), (3, .int x3), (4, .int x4)] dX12_cube_45 (by decide) rfl ?_
        refine v_iconst C (0 : Int32) dX12_cube_47 (by decide) ?_
        refine v_istore C [(9, .int (0 : Int32)), (7, .long y5), (5, .long y5), (0, .ref (bs + a0)), (1, .int x1), (2, .int x2), (3, .int x3), (4, .int x4)] dX12_cube_48 (by decide) rfl ?_
        refine v_sub [(0, .ref (bs + a0)), (3, .int x3), (4, .int x4), (5, .long y5), (7, .long y5), (9, .int (0 : Int32))] [3, 6, 7, 2, 1, 0] rfl ?_
        refine it2_S (V := fun x7 x9 => VV X D bs u0 rmX12_cube 13 0 0 (MQ X.2.2.2.2.2.2.1 (uQi D bs u0 v r) X.2.2.2.2.2.1 X.2.2.2.1 0 0 (uA bs u0)) u3 50 [(0, .ref (bs + a0)), (3, .int x3), (4, .int x4), (5, .long y5), (7, .long x7), (9, .int x9)] []) h (fun k_ hk_ => wX12_cube_B50 C hin hk_ ?_ (fun x hx => Option.some.inj (show some x = some _ from hx)))
        intro h
        try dsimp only [Sum.elim_inl] at h
        refine v_bipush C (-6 : Int32) dX12_cube_192 (by decide) ?_
        exact v_iret C dX12_cube_194 (Prod.mk.inj (Option.some.inj h)).2 (Prod.mk.inj (Option.some.inj h)).1
      · refine v_bipush C (-3 : Int32) dX12_cube_24 (by decide) ?_
        exact v_iret C dX12_cube_26 (Prod.mk.inj (Option.some.inj h)).2 (Prod.mk.inj (Option.some.inj h)).1
  · refine v_iconst C (-1 : Int32) dX12_cube_8 (by decide) ?_
    exact v_iret C dX12_cube_9 (Prod.mk.inj (Option.some.inj h)).2 (Prod.mk.inj (Option.some.inj h)).1
set_option maxRecDepth 100000 in
set_option maxHeartbeats 4000000 in
theorem wX12_origin_B24 {X : UX} {D : UD} {bs tw : Nat} {u0 : UH} {r : Int32} {v : UH} (C : uCx X D bs tw cX12_origin 5 RX12 (some .int)) (hin : X.2.2.2.2.2.2.2.1.name = "origin") {a0 : Nat} {x1 : Int32} {x2 : Int32} {x3 : Int32}  {G : (UH ⊕ (Int32 × UH)) → Prop} {k : Int32 → UH → Option (UH ⊕ (Int32 × UH))} (hk : ∀ (x4 : Int32) (u' : UH) e, k x4 u' = some e → G e → VV X D bs u0 rmX12_origin 5 0 0 (MQ X.2.2.2.2.2.2.1 (uQi D bs u0 v r) X.2.2.2.2.2.1 X.2.2.2.1 0 0 (uA bs u0)) u' 24 [(0, .ref (bs + a0)), (1, .int x1), (2, .int x2), (3, .int x3), (4, .int x4)] []) (hex : ∀  (u' : UH), G (Sum.inl u') → VV X D bs u0 rmX12_origin 5 0 0 (MQ X.2.2.2.2.2.2.1 (uQi D bs u0 v r) X.2.2.2.2.2.1 X.2.2.2.1 0 0 (uA bs u0)) u' 82 [] []) (hret : ∀ x, G (Sum.inr x) → x = (r, v)) : ∀ (x4 : Int32) (u : UH) e, fX12_origin_B24 a0 x1 x2 x3  k x4 u = some e → G e → VV X D bs u0 rmX12_origin 5 0 0 (MQ X.2.2.2.2.2.2.1 (uQi D bs u0 v r) X.2.2.2.2.2.1 X.2.2.2.1 0 0 (uA bs u0)) u 24 [(0, .ref (bs + a0)), (1, .int x1), (2, .int x2), (3, .int x3), (4, .int x4)] [] := by
  intro x4 u e h g
  unfold fX12_origin_B24 at h
  refine v_iload C 4 dX12_origin_24 rfl ?_
  refine v_aload_n C 0 dX12_origin_26 rfl rfl ?_
  obtain ⟨y3, h1, h⟩ := ob_some h
  obtain ⟨hkd, h1⟩ := kd_some h1
  refine v_goi (rn_V C gcX12_98 (RX12, TX12, 33) rfl rfl (by decide) hkd (mX12_headers h1) ⟨rfl, rfl⟩ rfl ⟨Nat.le_of_ble_eq_true rfl, Nat.le_of_ble_eq_true rfl⟩ (rest := [.int x4]) rfl (Nat.le_of_ble_eq_true rfl) ⟨Nat.le_of_ble_eq_true rfl, Nat.le_of_ble_eq_true rfl⟩ dX12_origin_27) ?_
  refine v_icmpge C 82 dX12_origin_30 (by decide) h (fun _ h => ?_) (fun _ h => ?_)
  · refine v_sub [] [] rfl ?_
    exact hex u ((Option.some.inj h).symm ▸ g)
  · refine v_aload_n C 0 dX12_origin_33 rfl rfl ?_
    refine v_iload C 4 dX12_origin_34 rfl ?_
    obtain ⟨y4, h1, h⟩ := ob_some h
    obtain ⟨hkd, h1⟩ := kd_some h1
    refine v_goi (rn_V C gcX12_153 (RX12, TX12, 33) rfl rfl (by decide) hkd (mX12_isInjected h1) ⟨rfl, rfl⟩ rfl ⟨Nat.le_of_ble_eq_true rfl, Nat.le_of_ble_eq_true rfl⟩ (rest := []) rfl (Nat.le_of_ble_eq_true rfl) ⟨Nat.le_of_ble_eq_true rfl, Nat.le_of_ble_eq_true rfl⟩ dX12_origin_36) ?_
    refine v_ifeq C 76 dX12_origin_39 (by decide) h (fun _ h => ?_) (fun _ h => ?_)
    · refine v_iinc C 4 (x4 + (1 : Int32)) [(4, .int (x4 + (1 : Int32))), (0, .ref (bs + a0)), (1, .int x1), (2, .int x2), (3, .int x3)] dX12_origin_76 rfl rfl (by decide) rfl ?_
      refine v_goto C 24 dX12_origin_79 (by decide) ?_
      refine v_sub [(0, .ref (bs + a0)), (1, .int x1), (2, .int x2), (3, .int x3), (4, .int (x4 + (1 : Int32)))] [1, 2, 3, 4, 0] rfl ?_
      exact hk (x4 + (1 : Int32)) u _ h g
    · refine v_aload_n C 0 dX12_origin_42 rfl rfl ?_
      refine v_aload_n C 0 dX12_origin_43 rfl rfl ?_
      refine v_getI C fdX12_79 dX12_origin_44 h (fun y5 h => ?_)
      refine v_lconst C (1 : Int64) dX12_origin_47 (by decide) ?_
      refine v_iload C 4 dX12_origin_48 rfl ?_
      refine v_lshl C dX12_origin_50 ?_
      obtain ⟨u6, h1, h⟩ := ob_some h
      obtain ⟨hkd, h1⟩ := kd_some h1
      refine v_gov (rn_V C gcX12_168 (RX12, TX12, 33) rfl rfl (by decide) hkd (mX12_spread h1) ⟨rfl, rfl⟩ rfl ⟨Nat.le_of_ble_eq_true rfl, Nat.le_of_ble_eq_true rfl⟩ (rest := []) rfl (Nat.le_of_ble_eq_true rfl) ⟨Nat.le_of_ble_eq_true rfl, Nat.le_of_ble_eq_true rfl⟩ dX12_origin_51) ?_
      refine v_aload_n C 0 dX12_origin_54 rfl rfl ?_
      refine v_getR C fdX12_22 dX12_origin_55 h (fun b7 h => ?_)
      refine v_iconst C (4 : Int32) dX12_origin_58 (by decide) ?_
      refine v_iload_n C 1 dX12_origin_59 rfl rfl ?_
      refine v_imul C dX12_origin_60 ?_
      refine v_iload_n C 2 dX12_origin_61 rfl rfl ?_
      refine v_iadd C dX12_origin_62 ?_
      refine v_ldJ C dX12_origin_63 h (fun y8 h => ?_)
      refine v_iload_n C 3 dX12_origin_64 rfl rfl ?_
      refine v_lshr C dX12_origin_65 ?_
      refine v_lconst C (1 : Int64) dX12_origin_66 (by decide) ?_
      refine v_land C dX12_origin_67 ?_
      refine v_lconst C (1 : Int64) dX12_origin_68 (by decide) ?_
      refine v_lcmpne C 76 dX12_origin_69 dX12_origin_70 (by decide) h (fun _ h => ?_) (fun _ h => ?_)
      · refine v_iinc C 4 (x4 + (1 : Int32)) [(4, .int (x4 + (1 : Int32))), (0, .ref (bs + a0)), (1, .int x1), (2, .int x2), (3, .int x3)] dX12_origin_76 rfl rfl (by decide) rfl ?_
        refine v_goto C 24 dX12_origin_79 (by decide) ?_
        refine v_sub [(0, .ref (bs + a0)), (1, .int x1), (2, .int x2), (3, .int x3), (4, .int (x4 + (1 : Int32)))] [1, 2, 3, 4, 0] rfl ?_
        exact hk (x4 + (1 : Int32)) u6 _ h g
      · refine v_iload C 4 dX12_origin_73 rfl ?_
        have h := hret (x4, u6) ((Option.some.inj h).symm ▸ g)
        exact v_iret C dX12_origin_75 (Prod.mk.inj h).2 (Prod.mk.inj h).1
set_option maxRecDepth 100000 in
set_option maxHeartbeats 4000000 in
theorem mX12_origin {l : Launch} {D : UD} {bs : Nat} {a0 : Nat} {x1 : Int32} {x2 : Int32} {x3 : Int32} {u0 : UH} {r : Int32} {v : UH} (h : fX12_origin a0 x1 x2 x3 u0 = some (r, v)) : Met l yX12_origin (wz yX12_origin cX12_origin 5 (some .int)) rmX12_origin (va_Pc [.ref (bs + a0), .int x1, .int x2, .int x3] (uIn D bs u0)) (uQi D bs u0 v r) 0 0 (uA bs u0) := by
  refine uMet (by decide) (Nat.le_of_ble_eq_true rfl) ?_
  intro X tw hX C hin
  have C : uCx X D bs tw cX12_origin 5 RX12 (some .int) := C
  have hin : X.2.2.2.2.2.2.2.1.name = "origin" := hin
  refine v_L [(0, .ref (bs + a0)), (1, .int x1), (2, .int x2), (3, .int x3)] rfl ?_
  unfold fX12_origin at h
  refine v_iload_n C 1 dX12_origin_0 rfl rfl ?_
  refine v_iload_n C 2 dX12_origin_1 rfl rfl ?_
  obtain ⟨y1, h1, h⟩ := ob_some h
  refine v_goi (rn_S C gcX12_106 (mX12_noPlace h1) ⟨rfl, rfl⟩ rfl ⟨Nat.le_of_ble_eq_true rfl, Nat.le_of_ble_eq_true rfl⟩ (rest := []) rfl (Nat.le_of_ble_eq_true rfl) ⟨Nat.le_of_ble_eq_true rfl, Nat.le_of_ble_eq_true rfl⟩ dX12_origin_2) ?_
  refine v_ifeq C 10 dX12_origin_5 (by decide) h (fun _ h => ?_) (fun _ h => ?_)
  · refine v_aload_n C 0 dX12_origin_10 rfl rfl ?_
    refine v_iload_n C 3 dX12_origin_11 rfl rfl ?_
    obtain ⟨y2, h1, h⟩ := ob_some h
    obtain ⟨hkd, h1⟩ := kd_some h1
    refine v_goi (rn_V C gcX12_122 (RX12, TX12, 33) rfl rfl (by decide) hkd (mX12_noHeader h1) ⟨rfl, rfl⟩ rfl ⟨Nat.le_of_ble_eq_true rfl, Nat.le_of_ble_eq_true rfl⟩ (rest := []) rfl (Nat.le_of_ble_eq_true rfl) ⟨Nat.le_of_ble_eq_true rfl, Nat.le_of_ble_eq_true rfl⟩ dX12_origin_12) ?_
    refine v_ifeq C 21 dX12_origin_15 (by decide) h (fun _ h => ?_) (fun _ h => ?_)
    · refine v_iconst C (0 : Int32) dX12_origin_21 (by decide) ?_
      refine v_istore C [(4, .int (0 : Int32)), (0, .ref (bs + a0)), (1, .int x1), (2, .int x2), (3, .int x3)] dX12_origin_22 (by decide) rfl ?_
      refine v_sub [(0, .ref (bs + a0)), (1, .int x1), (2, .int x2), (3, .int x3), (4, .int (0 : Int32))] [1, 2, 3, 4, 0] rfl ?_
      refine it2_S (V := fun x4 u' => VV X D bs u0 rmX12_origin 5 0 0 (MQ X.2.2.2.2.2.2.1 (uQi D bs u0 v r) X.2.2.2.2.2.1 X.2.2.2.1 0 0 (uA bs u0)) u' 24 [(0, .ref (bs + a0)), (1, .int x1), (2, .int x2), (3, .int x3), (4, .int x4)] []) h (fun k_ hk_ => wX12_origin_B24 C hin hk_ ?_ (fun x hx => Option.some.inj (show some x = some _ from hx)))
      intro z10 h
      try dsimp only [Sum.elim_inl] at h
      refine v_bipush C (-6 : Int32) dX12_origin_82 (by decide) ?_
      exact v_iret C dX12_origin_84 (Prod.mk.inj (Option.some.inj h)).2 (Prod.mk.inj (Option.some.inj h)).1
    · refine v_bipush C (-3 : Int32) dX12_origin_18 (by decide) ?_
      exact v_iret C dX12_origin_20 (Prod.mk.inj (Option.some.inj h)).2 (Prod.mk.inj (Option.some.inj h)).1
  · refine v_iconst C (-1 : Int32) dX12_origin_8 (by decide) ?_
    exact v_iret C dX12_origin_9 (Prod.mk.inj (Option.some.inj h)).2 (Prod.mk.inj (Option.some.inj h)).1
set_option maxRecDepth 100000 in
set_option maxHeartbeats 4000000 in
theorem wX12_distance_B24 {X : UX} {D : UD} {bs tw : Nat} {u0 : UH} {r : Int32} {v : UH} (C : uCx X D bs tw cX12_distance 8 RX12 (some .int)) (hin : X.2.2.2.2.2.2.2.1.name = "distance") {a0 : Nat} {x1 : Int32} {x2 : Int32} {x3 : Int32}  {G : UH → Prop} {k : Int32 → UH → Option UH} (hk : ∀ (x4 : Int32) (u' : UH) e, k x4 u' = some e → G e → VV X D bs u0 rmX12_distance 8 0 0 (MQ X.2.2.2.2.2.2.1 (uQi D bs u0 v r) X.2.2.2.2.2.1 X.2.2.2.1 0 0 (uA bs u0)) u' 24 [(0, .ref (bs + a0)), (1, .int x1), (2, .int x2), (3, .int x3), (4, .int x4)] []) (hex : ∀  (u' : UH), G u' → VV X D bs u0 rmX12_distance 8 0 0 (MQ X.2.2.2.2.2.2.1 (uQi D bs u0 v r) X.2.2.2.2.2.1 X.2.2.2.1 0 0 (uA bs u0)) u' 53 [(0, .ref (bs + a0)), (1, .int x1), (2, .int x2), (3, .int x3)] [])  : ∀ (x4 : Int32) (u : UH) e, fX12_distance_B24 a0  k x4 u = some e → G e → VV X D bs u0 rmX12_distance 8 0 0 (MQ X.2.2.2.2.2.2.1 (uQi D bs u0 v r) X.2.2.2.2.2.1 X.2.2.2.1 0 0 (uA bs u0)) u 24 [(0, .ref (bs + a0)), (1, .int x1), (2, .int x2), (3, .int x3), (4, .int x4)] [] := by
  intro x4 u e h g
  unfold fX12_distance_B24 at h
  refine v_iload C 4 dX12_distance_24 rfl ?_
  refine v_bipush C (24 : Int32) dX12_distance_26 (by decide) ?_
  refine v_icmpge C 53 dX12_distance_28 (by decide) h (fun _ h => ?_) (fun _ h => ?_)
  · refine v_sub [(0, .ref (bs + a0)), (1, .int x1), (2, .int x2), (3, .int x3)] [0, 1, 2, 3] rfl ?_
    exact hex u ((Option.some.inj h).symm ▸ g)
  · refine v_aload_n C 0 dX12_distance_31 rfl rfl ?_
    refine v_getR C fdX12_22 dX12_distance_32 h (fun b3 h => ?_)
    refine v_iload C 4 dX12_distance_35 rfl ?_
    refine v_lconst C (0 : Int64) dX12_distance_37 (by decide) ?_
    refine v_stJ C dX12_distance_38 h (fun u4 h => ?_)
    refine v_aload_n C 0 dX12_distance_39 rfl rfl ?_
    refine v_getR C fdX12_26 dX12_distance_40 h (fun b5 h => ?_)
    refine v_iload C 4 dX12_distance_43 rfl ?_
    refine v_lconst C (0 : Int64) dX12_distance_45 (by decide) ?_
    refine v_stJ C dX12_distance_46 h (fun u6 h => ?_)
    refine v_iinc C 4 (x4 + (1 : Int32)) [(4, .int (x4 + (1 : Int32))), (0, .ref (bs + a0)), (1, .int x1), (2, .int x2), (3, .int x3)] dX12_distance_47 rfl rfl (by decide) rfl ?_
    refine v_goto C 24 dX12_distance_50 (by decide) ?_
    refine v_sub [(0, .ref (bs + a0)), (1, .int x1), (2, .int x2), (3, .int x3), (4, .int (x4 + (1 : Int32)))] [1, 2, 3, 4, 0] rfl ?_
    exact hk (x4 + (1 : Int32)) u6 _ h g
set_option maxRecDepth 100000 in
set_option maxHeartbeats 4000000 in
theorem wX12_distance_B100 {X : UX} {D : UD} {bs tw : Nat} {u0 : UH} {r : Int32} {v : UH} (C : uCx X D bs tw cX12_distance 8 RX12 (some .int)) (hin : X.2.2.2.2.2.2.2.1.name = "distance") {a0 : Nat} {x2 : Int32} {x3 : Int32} {x5 : Int32}  {G : (Int32 × UH) → Prop} {k : Int32 → Int32 → UH → Option (Int32 × UH)} (hk : ∀ (x4 : Int32) (x6 : Int32) (u' : UH) e, k x4 x6 u' = some e → G e → VV X D bs u0 rmX12_distance 8 0 0 (MQ X.2.2.2.2.2.2.1 (uQi D bs u0 v r) X.2.2.2.2.2.1 X.2.2.2.1 0 0 (uA bs u0)) u' 100 [(0, .ref (bs + a0)), (2, .int x2), (3, .int x3), (4, .int x4), (5, .int x5), (6, .int x6)] []) (hex : ∀ (x4 : Int32) (u' : UH), G (x4, u') → VV X D bs u0 rmX12_distance 8 0 0 (MQ X.2.2.2.2.2.2.1 (uQi D bs u0 v r) X.2.2.2.2.2.1 X.2.2.2.1 0 0 (uA bs u0)) u' 180 [(0, .ref (bs + a0)), (2, .int x2), (3, .int x3), (4, .int x4), (5, .int x5)] [])  : ∀ (x4 : Int32) (x6 : Int32) (u : UH) e, fX12_distance_B100 a0  k x4 x6 u = some e → G e → VV X D bs u0 rmX12_distance 8 0 0 (MQ X.2.2.2.2.2.2.1 (uQi D bs u0 v r) X.2.2.2.2.2.1 X.2.2.2.1 0 0 (uA bs u0)) u 100 [(0, .ref (bs + a0)), (2, .int x2), (3, .int x3), (4, .int x4), (5, .int x5), (6, .int x6)] [] := by
  intro x4 x6 u e h g
  unfold fX12_distance_B100 at h
  refine v_iload C 5 dX12_distance_100 rfl ?_
  refine v_bipush C (24 : Int32) dX12_distance_102 (by decide) ?_
  refine v_icmpge C 180 dX12_distance_104 (by decide) h (fun _ h => ?_) (fun _ h => ?_)
  · refine v_sub [(0, .ref (bs + a0)), (2, .int x2), (3, .int x3), (4, .int x4), (5, .int x5)] [0, 1, 2, 3, 4] rfl ?_
    exact hex x4 u ((Option.some.inj h).symm ▸ g)
  · refine v_aload_n C 0 dX12_distance_107 rfl rfl ?_
    refine v_getR C fdX12_32 dX12_distance_108 h (fun b14 h => ?_)
    refine v_iload C 5 dX12_distance_111 rfl ?_
    refine v_aload_n C 0 dX12_distance_113 rfl rfl ?_
    refine v_getR C fdX12_22 dX12_distance_114 h (fun b15 h => ?_)
    refine v_iload C 5 dX12_distance_117 rfl ?_
    refine v_ldJ C dX12_distance_119 h (fun y16 h => ?_)
    refine v_aload_n C 0 dX12_distance_120 rfl rfl ?_
    refine v_getR C fdX12_26 dX12_distance_121 h (fun b17 h => ?_)
    refine v_iload C 5 dX12_distance_124 rfl ?_
    refine v_ldJ C dX12_distance_126 h (fun y18 h => ?_)
    refine v_ldc2 C (-1 : Int64) tw1153 dX12_distance_127 ?_
    refine v_lxor C dX12_distance_130 ?_
    refine v_land C dX12_distance_131 ?_
    refine v_stJ C dX12_distance_132 h (fun u19 h => ?_)
    refine v_aload_n C 0 dX12_distance_133 rfl rfl ?_
    refine v_getR C fdX12_26 dX12_distance_134 h (fun b20 h => ?_)
    refine v_iload C 5 dX12_distance_137 rfl ?_
    refine v_dup2 C dX12_distance_139 rfl rfl ?_
    refine v_ldJ C dX12_distance_140 h (fun y21 h => ?_)
    refine v_aload_n C 0 dX12_distance_141 rfl rfl ?_
    refine v_getR C fdX12_32 dX12_distance_142 h (fun b22 h => ?_)
    refine v_iload C 5 dX12_distance_145 rfl ?_
    refine v_ldJ C dX12_distance_147 h (fun y23 h => ?_)
    refine v_lor C dX12_distance_148 ?_
    refine v_stJ C dX12_distance_149 h (fun u24 h => ?_)
    refine v_iload C 3 dX12_distance_150 rfl ?_
    refine v_ifne C 167 dX12_distance_152 (by decide) h (fun _ h => ?_) (fun _ h => ?_)
    · refine v_iconst C (1 : Int32) dX12_distance_167 (by decide) ?_
      refine v_goto C 172 dX12_distance_168 (by decide) ?_
      refine v_istore C [(4, .int (1 : Int32)), (0, .ref (bs + a0)), (2, .int x2), (3, .int x3), (5, .int x5), (6, .int x6)] dX12_distance_172 (by decide) rfl ?_
      refine v_iinc C 5 (x6 + (1 : Int32)) [(6, .int (x6 + (1 : Int32))), (4, .int (1 : Int32)), (0, .ref (bs + a0)), (2, .int x2), (3, .int x3), (5, .int x5)] dX12_distance_174 rfl rfl (by decide) rfl ?_
      refine v_goto C 100 dX12_distance_177 (by decide) ?_
      refine v_sub [(0, .ref (bs + a0)), (2, .int x2), (3, .int x3), (4, .int (1 : Int32)), (5, .int x5), (6, .int (x6 + (1 : Int32)))] [2, 3, 4, 1, 5, 0] rfl ?_
      exact hk (1 : Int32) (x6 + (1 : Int32)) u24 _ h g
    · refine v_aload_n C 0 dX12_distance_155 rfl rfl ?_
      refine v_getR C fdX12_32 dX12_distance_156 h (fun b25 h => ?_)
      refine v_iload C 5 dX12_distance_159 rfl ?_
      refine v_ldJ C dX12_distance_161 h (fun y26 h => ?_)
      refine v_lconst C (0 : Int64) dX12_distance_162 (by decide) ?_
      refine v_lcmpeq C 171 dX12_distance_163 dX12_distance_164 (by decide) h (fun _ h => ?_) (fun _ h => ?_)
      · refine v_iconst C (0 : Int32) dX12_distance_171 (by decide) ?_
        refine v_istore C [(4, .int (0 : Int32)), (0, .ref (bs + a0)), (2, .int x2), (3, .int x3), (5, .int x5), (6, .int x6)] dX12_distance_172 (by decide) rfl ?_
        refine v_iinc C 5 (x6 + (1 : Int32)) [(6, .int (x6 + (1 : Int32))), (4, .int (0 : Int32)), (0, .ref (bs + a0)), (2, .int x2), (3, .int x3), (5, .int x5)] dX12_distance_174 rfl rfl (by decide) rfl ?_
        refine v_goto C 100 dX12_distance_177 (by decide) ?_
        refine v_sub [(0, .ref (bs + a0)), (2, .int x2), (3, .int x3), (4, .int (0 : Int32)), (5, .int x5), (6, .int (x6 + (1 : Int32)))] [2, 3, 4, 1, 5, 0] rfl ?_
        exact hk (0 : Int32) (x6 + (1 : Int32)) u24 _ h g
      · refine v_iconst C (1 : Int32) dX12_distance_167 (by decide) ?_
        refine v_goto C 172 dX12_distance_168 (by decide) ?_
        refine v_istore C [(4, .int (1 : Int32)), (0, .ref (bs + a0)), (2, .int x2), (3, .int x3), (5, .int x5), (6, .int x6)] dX12_distance_172 (by decide) rfl ?_
        refine v_iinc C 5 (x6 + (1 : Int32)) [(6, .int (x6 + (1 : Int32))), (4, .int (1 : Int32)), (0, .ref (bs + a0)), (2, .int x2), (3, .int x3), (5, .int x5)] dX12_distance_174 rfl rfl (by decide) rfl ?_
        refine v_goto C 100 dX12_distance_177 (by decide) ?_
        refine v_sub [(0, .ref (bs + a0)), (2, .int x2), (3, .int x3), (4, .int (1 : Int32)), (5, .int x5), (6, .int (x6 + (1 : Int32)))] [2, 3, 4, 1, 5, 0] rfl ?_
        exact hk (1 : Int32) (x6 + (1 : Int32)) u24 _ h g
set_option maxRecDepth 100000 in
set_option maxHeartbeats 4000000 in
theorem wX12_distance_B193 {X : UX} {D : UD} {bs tw : Nat} {u0 : UH} {r : Int32} {v : UH} (C : uCx X D bs tw cX12_distance 8 RX12 (some .int)) (hin : X.2.2.2.2.2.2.2.1.name = "distance") {a0 : Nat} {x2 : Int32} {x3 : Int32} {x4 : Int32} {x5 : Int32} {x6 : Int32}  {G : UH → Prop} {k : Int32 → UH → Option UH} (hk : ∀ (x7 : Int32) (u' : UH) e, k x7 u' = some e → G e → VV X D bs u0 rmX12_distance 8 0 0 (MQ X.2.2.2.2.2.2.1 (uQi D bs u0 v r) X.2.2.2.2.2.1 X.2.2.2.1 0 0 (uA bs u0)) u' 193 [(0, .ref (bs + a0)), (2, .int x2), (3, .int x3), (4, .int x4), (5, .int x5), (6, .int x6), (7, .int x7)] []) (hex : ∀  (u' : UH), G u' → VV X D bs u0 rmX12_distance 8 0 0 (MQ X.2.2.2.2.2.2.1 (uQi D bs u0 v r) X.2.2.2.2.2.1 X.2.2.2.1 0 0 (uA bs u0)) u' 233 [(0, .ref (bs + a0)), (2, .int x2), (3, .int x3), (4, .int x4), (5, .int x5), (6, .int x6)] [])  : ∀ (x7 : Int32) (u : UH) e, fX12_distance_B193 a0 x6  k x7 u = some e → G e → VV X D bs u0 rmX12_distance 8 0 0 (MQ X.2.2.2.2.2.2.1 (uQi D bs u0 v r) X.2.2.2.2.2.1 X.2.2.2.1 0 0 (uA bs u0)) u 193 [(0, .ref (bs + a0)), (2, .int x2), (3, .int x3), (4, .int x4), (5, .int x5), (6, .int x6), (7, .int x7)] [] := by
  intro x7 u e h g
  unfold fX12_distance_B193 at h
  refine v_iload C 6 dX12_distance_193 rfl ?_
  refine v_aload_n C 0 dX12_distance_195 rfl rfl ?_
  obtain ⟨y30, h1, h⟩ := ob_some h
  obtain ⟨hkd, h1⟩ := kd_some h1
  refine v_goi (rn_V C gcX12_98 (RX12, TX12, 33) rfl rfl (by decide) hkd (mX12_headers h1) ⟨rfl, rfl⟩ rfl ⟨Nat.le_of_ble_eq_true rfl, Nat.le_of_ble_eq_true rfl⟩ (rest := [.int x7]) rfl (Nat.le_of_ble_eq_true rfl) ⟨Nat.le_of_ble_eq_true rfl, Nat.le_of_ble_eq_true rfl⟩ dX12_distance_196) ?_
  refine v_icmpge C 233 dX12_distance_199 (by decide) h (fun _ h => ?_) (fun _ h => ?_)
  · refine v_sub [(0, .ref (bs + a0)), (2, .int x2), (3, .int x3), (4, .int x4), (5, .int x5), (6, .int x6)] [0, 1, 2, 3, 4, 5] rfl ?_
    exact hex u ((Option.some.inj h).symm ▸ g)
  · refine v_aload_n C 0 dX12_distance_202 rfl rfl ?_
    refine v_getR C fdX12_32 dX12_distance_203 h (fun b31 h => ?_)
    refine v_iload C 5 dX12_distance_206 rfl ?_
    refine v_ldJ C dX12_distance_208 h (fun y32 h => ?_)
    refine v_iload C 6 dX12_distance_209 rfl ?_
    refine v_lshr C dX12_distance_211 ?_
    refine v_lconst C (1 : Int64) dX12_distance_212 (by decide) ?_
    refine v_land C dX12_distance_213 ?_
    refine v_lconst C (1 : Int64) dX12_distance_214 (by decide) ?_
    refine v_lcmpne C 227 dX12_distance_215 dX12_distance_216 (by decide) h (fun _ h => ?_) (fun _ h => ?_)
    · refine v_iinc C 6 (x7 + (1 : Int32)) [(7, .int (x7 + (1 : Int32))), (0, .ref (bs + a0)), (2, .int x2), (3, .int x3), (4, .int x4), (5, .int x5), (6, .int x6)] dX12_distance_227 rfl rfl (by decide) rfl ?_
      refine v_goto C 193 dX12_distance_230 (by decide) ?_
      refine v_sub [(0, .ref (bs + a0)), (2, .int x2), (3, .int x3), (4, .int x4), (5, .int x5), (6, .int x6), (7, .int (x7 + (1 : Int32)))] [1, 2, 3, 4, 5, 6, 0] rfl ?_
      exact hk (x7 + (1 : Int32)) u _ h g
    · refine v_aload_n C 0 dX12_distance_219 rfl rfl ?_
      refine v_iload C 5 dX12_distance_220 rfl ?_
      refine v_iload C 6 dX12_distance_222 rfl ?_
      obtain ⟨u33, h1, h⟩ := ob_some h
      obtain ⟨hkd, h1⟩ := kd_some h1
      refine v_gov (rn_V C gcX12_161 (RX12, TX12, 33) rfl rfl (by decide) hkd (mX12_goOn h1) ⟨rfl, rfl⟩ rfl ⟨Nat.le_of_ble_eq_true rfl, Nat.le_of_ble_eq_true rfl⟩ (rest := []) rfl (Nat.le_of_ble_eq_true rfl) ⟨Nat.le_of_ble_eq_true rfl, Nat.le_of_ble_eq_true rfl⟩ dX12_distance_224) ?_
      refine v_iinc C 6 (x7 + (1 : Int32)) [(7, .int (x7 + (1 : Int32))), (0, .ref (bs + a0)), (2, .int x2), (3, .int x3), (4, .int x4), (5, .int x5), (6, .int x6)] dX12_distance_227 rfl rfl (by decide) rfl ?_
      refine v_goto C 193 dX12_distance_230 (by decide) ?_
      refine v_sub [(0, .ref (bs + a0)), (2, .int x2), (3, .int x3), (4, .int x4), (5, .int x5), (6, .int x6), (7, .int (x7 + (1 : Int32)))] [1, 2, 3, 4, 5, 6, 0] rfl ?_
      exact hk (x7 + (1 : Int32)) u33 _ h g
set_option maxRecDepth 100000 in
set_option maxHeartbeats 4000000 in
theorem wX12_distance_B183 {X : UX} {D : UD} {bs tw : Nat} {u0 : UH} {r : Int32} {v : UH} (C : uCx X D bs tw cX12_distance 8 RX12 (some .int)) (hin : X.2.2.2.2.2.2.2.1.name = "distance") {a0 : Nat} {x2 : Int32} {x3 : Int32} {x4 : Int32} {x5 : Int32}  {G : UH → Prop} {k : Int32 → UH → Option UH} (hk : ∀ (x6 : Int32) (u' : UH) e, k x6 u' = some e → G e → VV X D bs u0 rmX12_distance 8 0 0 (MQ X.2.2.2.2.2.2.1 (uQi D bs u0 v r) X.2.2.2.2.2.1 X.2.2.2.1 0 0 (uA bs u0)) u' 183 [(0, .ref (bs + a0)), (2, .int x2), (3, .int x3), (4, .int x4), (5, .int x5), (6, .int x6)] []) (hex : ∀  (u' : UH), G u' → VV X D bs u0 rmX12_distance 8 0 0 (MQ X.2.2.2.2.2.2.1 (uQi D bs u0 v r) X.2.2.2.2.2.1 X.2.2.2.1 0 0 (uA bs u0)) u' 239 [(0, .ref (bs + a0)), (2, .int x2), (3, .int x3), (4, .int x4), (5, .int x5)] [])  : ∀ (x6 : Int32) (u : UH) e, fX12_distance_B183 a0  k x6 u = some e → G e → VV X D bs u0 rmX12_distance 8 0 0 (MQ X.2.2.2.2.2.2.1 (uQi D bs u0 v r) X.2.2.2.2.2.1 X.2.2.2.1 0 0 (uA bs u0)) u 183 [(0, .ref (bs + a0)), (2, .int x2), (3, .int x3), (4, .int x4), (5, .int x5), (6, .int x6)] [] := by
  intro x6 u e h g
  unfold fX12_distance_B183 at h
  refine v_iload C 5 dX12_distance_183 rfl ?_
  refine v_bipush C (24 : Int32) dX12_distance_185 (by decide) ?_
  refine v_icmpge C 239 dX12_distance_187 (by decide) h (fun _ h => ?_) (fun _ h => ?_)
  · refine v_sub [(0, .ref (bs + a0)), (2, .int x2), (3, .int x3), (4, .int x4), (5, .int x5)] [0, 1, 2, 3, 4] rfl ?_
    exact hex u ((Option.some.inj h).symm ▸ g)
  · refine v_iconst C (0 : Int32) dX12_distance_190 (by decide) ?_
    refine v_istore C [(7, .int (0 : Int32)), (0, .ref (bs + a0)), (2, .int x2), (3, .int x3), (4, .int x4), (5, .int x5), (6, .int x6)] dX12_distance_191 (by decide) rfl ?_
    refine v_sub [(0, .ref (bs + a0)), (2, .int x2), (3, .int x3), (4, .int x4), (5, .int x5), (6, .int x6), (7, .int (0 : Int32))] [1, 2, 3, 4, 5, 6, 0] rfl ?_
    refine it2_O (V := fun x7 u' => VV X D bs u0 rmX12_distance 8 0 0 (MQ X.2.2.2.2.2.2.1 (uQi D bs u0 v r) X.2.2.2.2.2.1 X.2.2.2.1 0 0 (uA bs u0)) u' 193 [(0, .ref (bs + a0)), (2, .int x2), (3, .int x3), (4, .int x4), (5, .int x5), (6, .int x6), (7, .int x7)] []) h (fun k_ hk_ => wX12_distance_B193 C hin hk_ ?_ )
    intro z35 h
    try dsimp only [Sum.elim_inl] at h
    refine v_iinc C 5 (x6 + (1 : Int32)) [(6, .int (x6 + (1 : Int32))), (0, .ref (bs + a0)), (2, .int x2), (3, .int x3), (4, .int x4), (5, .int x5)] dX12_distance_233 rfl rfl (by decide) rfl ?_
    refine v_goto C 183 dX12_distance_236 (by decide) ?_
    refine v_sub [(0, .ref (bs + a0)), (2, .int x2), (3, .int x3), (4, .int x4), (5, .int x5), (6, .int (x6 + (1 : Int32)))] [1, 2, 3, 4, 5, 0] rfl ?_
    exact hk (x6 + (1 : Int32)) z35 _ h g
set_option maxRecDepth 100000 in
set_option maxHeartbeats 4000000 in
theorem wX12_distance_B71 {X : UX} {D : UD} {bs tw : Nat} {u0 : UH} {r : Int32} {v : UH} (C : uCx X D bs tw cX12_distance 8 RX12 (some .int)) (hin : X.2.2.2.2.2.2.2.1.name = "distance") {a0 : Nat} {x2 : Int32} {x3 : Int32}  {G : (UH ⊕ (Int32 × UH)) → Prop} {k : Int32 → Int32 → UH → Option (UH ⊕ (Int32 × UH))} (hk : ∀ (x4 : Int32) (x5 : Int32) (u' : UH) e, k x4 x5 u' = some e → G e → VV X D bs u0 rmX12_distance 8 0 0 (MQ X.2.2.2.2.2.2.1 (uQi D bs u0 v r) X.2.2.2.2.2.1 X.2.2.2.1 0 0 (uA bs u0)) u' 71 [(0, .ref (bs + a0)), (2, .int x2), (3, .int x3), (4, .int x4), (5, .int x5)] []) (hex : ∀  (u' : UH), G (Sum.inl u') → VV X D bs u0 rmX12_distance 8 0 0 (MQ X.2.2.2.2.2.2.1 (uQi D bs u0 v r) X.2.2.2.2.2.1 X.2.2.2.1 0 0 (uA bs u0)) u' 245 [] []) (hret : ∀ x, G (Sum.inr x) → x = (r, v)) : ∀ (x4 : Int32) (x5 : Int32) (u : UH) e, fX12_distance_B71 a0 x2 x3  k x4 x5 u = some e → G e → VV X D bs u0 rmX12_distance 8 0 0 (MQ X.2.2.2.2.2.2.1 (uQi D bs u0 v r) X.2.2.2.2.2.1 X.2.2.2.1 0 0 (uA bs u0)) u 71 [(0, .ref (bs + a0)), (2, .int x2), (3, .int x3), (4, .int x4), (5, .int x5)] [] := by
  intro x4 x5 u e h g
  unfold fX12_distance_B71 at h
  refine v_iload C 3 dX12_distance_71 rfl ?_
  refine v_ifeq C 245 dX12_distance_73 (by decide) h (fun _ h => ?_) (fun _ h => ?_)
  · refine v_sub [] [] rfl ?_
    exact hex u ((Option.some.inj h).symm ▸ g)
  · refine v_aload_n C 0 dX12_distance_76 rfl rfl ?_
    refine v_getR C fdX12_22 dX12_distance_77 h (fun b12 h => ?_)
    refine v_iconst C (4 : Int32) dX12_distance_80 (by decide) ?_
    refine v_iload_n C 1 dX12_distance_81 rfl rfl ?_
    refine v_imul C dX12_distance_82 ?_
    refine v_iload_n C 2 dX12_distance_83 rfl rfl ?_
    refine v_iadd C dX12_distance_84 ?_
    refine v_ldJ C dX12_distance_85 h (fun y13 h => ?_)
    refine v_lconst C (0 : Int64) dX12_distance_86 (by decide) ?_
    refine v_lcmpeq C 94 dX12_distance_87 dX12_distance_88 (by decide) h (fun _ h => ?_) (fun _ h => ?_)
    · refine v_iconst C (0 : Int32) dX12_distance_94 (by decide) ?_
      refine v_istore C [(4, .int (0 : Int32)), (0, .ref (bs + a0)), (2, .int x2), (3, .int x3), (5, .int x5)] dX12_distance_95 (by decide) rfl ?_
      refine v_iconst C (0 : Int32) dX12_distance_97 (by decide) ?_
      refine v_istore C [(6, .int (0 : Int32)), (4, .int (0 : Int32)), (0, .ref (bs + a0)), (2, .int x2), (3, .int x3), (5, .int x5)] dX12_distance_98 (by decide) rfl ?_
      refine v_sub [(0, .ref (bs + a0)), (2, .int x2), (3, .int x3), (4, .int (0 : Int32)), (5, .int x5), (6, .int (0 : Int32))] [2, 3, 4, 1, 5, 0] rfl ?_
      refine it3_O (V := fun x4 x6 u' => VV X D bs u0 rmX12_distance 8 0 0 (MQ X.2.2.2.2.2.2.1 (uQi D bs u0 v r) X.2.2.2.2.2.1 X.2.2.2.1 0 0 (uA bs u0)) u' 100 [(0, .ref (bs + a0)), (2, .int x2), (3, .int x3), (4, .int x4), (5, .int x5), (6, .int x6)] []) h (fun k_ hk_ => wX12_distance_B100 C hin hk_ ?_ )
      intro z28 z29 h
      try dsimp only [Sum.elim_inl] at h
      refine v_iconst C (0 : Int32) dX12_distance_180 (by decide) ?_
      refine v_istore C [(6, .int (0 : Int32)), (0, .ref (bs + a0)), (2, .int x2), (3, .int x3), (4, .int z28), (5, .int x5)] dX12_distance_181 (by decide) rfl ?_
      refine v_sub [(0, .ref (bs + a0)), (2, .int x2), (3, .int x3), (4, .int z28), (5, .int x5), (6, .int (0 : Int32))] [1, 2, 3, 4, 5, 0] rfl ?_
      refine it2_O (V := fun x6 u' => VV X D bs u0 rmX12_distance 8 0 0 (MQ X.2.2.2.2.2.2.1 (uQi D bs u0 v r) X.2.2.2.2.2.1 X.2.2.2.1 0 0 (uA bs u0)) u' 183 [(0, .ref (bs + a0)), (2, .int x2), (3, .int x3), (4, .int z28), (5, .int x5), (6, .int x6)] []) h (fun k_ hk_ => wX12_distance_B183 C hin hk_ ?_ )
      intro z31 h
      try dsimp only [Sum.elim_inl] at h
      refine v_iinc C 4 (x5 + (1 : Int32)) [(5, .int (x5 + (1 : Int32))), (0, .ref (bs + a0)), (2, .int x2), (3, .int x3), (4, .int z28)] dX12_distance_239 rfl rfl (by decide) rfl ?_
      refine v_goto C 71 dX12_distance_242 (by decide) ?_
      refine v_sub [(0, .ref (bs + a0)), (2, .int x2), (3, .int x3), (4, .int z28), (5, .int (x5 + (1 : Int32)))] [1, 2, 3, 4, 0] rfl ?_
      exact hk z28 (x5 + (1 : Int32)) z31 _ h g
    · refine v_iload C 4 dX12_distance_91 rfl ?_
      have h := hret (x5, u) ((Option.some.inj h).symm ▸ g)
      exact v_iret C dX12_distance_93 (Prod.mk.inj h).2 (Prod.mk.inj h).1
set_option maxRecDepth 100000 in
set_option maxHeartbeats 4000000 in
theorem mX12_distance {l : Launch} {D : UD} {bs : Nat} {a0 : Nat} {x1 : Int32} {x2 : Int32} {x3 : Int32} {u0 : UH} {r : Int32} {v : UH} (h : fX12_distance a0 x1 x2 x3 u0 = some (r, v)) : Met l yX12_distance (wz yX12_distance cX12_distance 8 (some .int)) rmX12_distance (va_Pc [.ref (bs + a0), .int x1, .int x2, .int x3] (uIn D bs u0)) (uQi D bs u0 v r) 0 0 (uA bs u0) := by
  refine uMet (by decide) (Nat.le_of_ble_eq_true rfl) ?_
  intro X tw hX C hin
  have C : uCx X D bs tw cX12_distance 8 RX12 (some .int) := C
  have hin : X.2.2.2.2.2.2.2.1.name = "distance" := hin
  refine v_L [(0, .ref (bs + a0)), (1, .int x1), (2, .int x2), (3, .int x3)] rfl ?_
  unfold fX12_distance at h
  refine v_aload_n C 0 dX12_distance_0 rfl rfl ?_
  refine v_iload_n C 1 dX12_distance_1 rfl rfl ?_
  obtain ⟨y1, h1, h⟩ := ob_some h
  obtain ⟨hkd, h1⟩ := kd_some h1
  refine v_goi (rn_V C gcX12_153 (RX12, TX12, 33) rfl rfl (by decide) hkd (mX12_isInjected h1) ⟨rfl, rfl⟩ rfl ⟨Nat.le_of_ble_eq_true rfl, Nat.le_of_ble_eq_true rfl⟩ (rest := []) rfl (Nat.le_of_ble_eq_true rfl) ⟨Nat.le_of_ble_eq_true rfl, Nat.le_of_ble_eq_true rfl⟩ dX12_distance_2) ?_
  refine v_ifne C 11 dX12_distance_5 (by decide) h (fun _ h => ?_) (fun _ h => ?_)
  · refine v_iload_n C 2 dX12_distance_11 rfl rfl ?_
    refine v_iload_n C 3 dX12_distance_12 rfl rfl ?_
    obtain ⟨y2, h1, h⟩ := ob_some h
    refine v_goi (rn_S C gcX12_106 (mX12_noPlace h1) ⟨rfl, rfl⟩ rfl ⟨Nat.le_of_ble_eq_true rfl, Nat.le_of_ble_eq_true rfl⟩ (rest := []) rfl (Nat.le_of_ble_eq_true rfl) ⟨Nat.le_of_ble_eq_true rfl, Nat.le_of_ble_eq_true rfl⟩ dX12_distance_13) ?_
    refine v_ifeq C 21 dX12_distance_16 (by decide) h (fun _ h => ?_) (fun _ h => ?_)
    · refine v_iconst C (0 : Int32) dX12_distance_21 (by decide) ?_
      refine v_istore C [(4, .int (0 : Int32)), (0, .ref (bs + a0)), (1, .int x1), (2, .int x2), (3, .int x3)] dX12_distance_22 (by decide) rfl ?_
      refine v_sub [(0, .ref (bs + a0)), (1, .int x1), (2, .int x2), (3, .int x3), (4, .int (0 : Int32))] [1, 2, 3, 4, 0] rfl ?_
      refine it2_O (V := fun x4 u' => VV X D bs u0 rmX12_distance 8 0 0 (MQ X.2.2.2.2.2.2.1 (uQi D bs u0 v r) X.2.2.2.2.2.1 X.2.2.2.1 0 0 (uA bs u0)) u' 24 [(0, .ref (bs + a0)), (1, .int x1), (2, .int x2), (3, .int x3), (4, .int x4)] []) h (fun k_ hk_ => wX12_distance_B24 C hin hk_ ?_ )
      intro z8 h
      try dsimp only [Sum.elim_inl] at h
      refine v_aload_n C 0 dX12_distance_53 rfl rfl ?_
      refine v_getR C fdX12_22 dX12_distance_54 h (fun b9 h => ?_)
      refine v_aload_n C 0 dX12_distance_57 rfl rfl ?_
      refine v_getI C fdX12_79 dX12_distance_58 h (fun y10 h => ?_)
      refine v_lconst C (1 : Int64) dX12_distance_61 (by decide) ?_
      refine v_iload_n C 1 dX12_distance_62 rfl rfl ?_
      refine v_lshl C dX12_distance_63 ?_
      refine v_stJ C dX12_distance_64 h (fun u11 h => ?_)
      refine v_iconst C (1 : Int32) dX12_distance_65 (by decide) ?_
      refine v_istore C [(4, .int (1 : Int32)), (0, .ref (bs + a0)), (1, .int x1), (2, .int x2), (3, .int x3)] dX12_distance_66 (by decide) rfl ?_
      refine v_iconst C (0 : Int32) dX12_distance_68 (by decide) ?_
      refine v_istore C [(5, .int (0 : Int32)), (4, .int (1 : Int32)), (0, .ref (bs + a0)), (1, .int x1), (2, .int x2), (3, .int x3)] dX12_distance_69 (by decide) rfl ?_
      refine v_sub [(0, .ref (bs + a0)), (2, .int x2), (3, .int x3), (4, .int (1 : Int32)), (5, .int (0 : Int32))] [2, 4, 5, 1, 0] rfl ?_
      refine it3_S (V := fun x4 x5 u' => VV X D bs u0 rmX12_distance 8 0 0 (MQ X.2.2.2.2.2.2.1 (uQi D bs u0 v r) X.2.2.2.2.2.1 X.2.2.2.1 0 0 (uA bs u0)) u' 71 [(0, .ref (bs + a0)), (2, .int x2), (3, .int x3), (4, .int x4), (5, .int x5)] []) h (fun k_ hk_ => wX12_distance_B71 C hin hk_ ?_ (fun x hx => Option.some.inj (show some x = some _ from hx)))
      intro z13 h
      try dsimp only [Sum.elim_inl] at h
      refine v_bipush C (-6 : Int32) dX12_distance_245 (by decide) ?_
      exact v_iret C dX12_distance_247 (Prod.mk.inj (Option.some.inj h)).2 (Prod.mk.inj (Option.some.inj h)).1
    · refine v_iconst C (-1 : Int32) dX12_distance_19 (by decide) ?_
      exact v_iret C dX12_distance_20 (Prod.mk.inj (Option.some.inj h)).2 (Prod.mk.inj (Option.some.inj h)).1
  · refine v_bipush C (-3 : Int32) dX12_distance_8 (by decide) ?_
    exact v_iret C dX12_distance_10 (Prod.mk.inj (Option.some.inj h)).2 (Prod.mk.inj (Option.some.inj h)).1
set_option maxRecDepth 100000 in
set_option maxHeartbeats 4000000 in
theorem wX12_wasThere_B2 {X : UX} {D : UD} {bs tw : Nat} {u0 : UH} {r : Int32} (C : uCx X D bs tw cX12_wasThere 3 RX12 (some .boolean)) (hin : X.2.2.2.2.2.2.2.1.name = "wasThere") {a0 : Nat} {x1 : Int32}  {G : (Unit ⊕ Int32) → Prop} {k : Int32 → Option (Unit ⊕ Int32)} (hk : ∀ (x2 : Int32)  e, k x2  = some e → G e → VV X D bs u0 rmX12_wasThere 3 0 0 (MQ X.2.2.2.2.2.2.1 (uQi D bs u0 u0 r) X.2.2.2.2.2.1 X.2.2.2.1 0 0 (uA bs u0)) u0 2 [(0, .ref (bs + a0)), (1, .int x1), (2, .int x2)] []) (hex : G (Sum.inl ()) → VV X D bs u0 rmX12_wasThere 3 0 0 (MQ X.2.2.2.2.2.2.1 (uQi D bs u0 u0 r) X.2.2.2.2.2.1 X.2.2.2.1 0 0 (uA bs u0)) u0 28 [] []) (hret : ∀ x, G (Sum.inr x) → x = r) : ∀ (x2 : Int32)  e, fX12_wasThere_B2 a0 x1 u0 k x2  = some e → G e → VV X D bs u0 rmX12_wasThere 3 0 0 (MQ X.2.2.2.2.2.2.1 (uQi D bs u0 u0 r) X.2.2.2.2.2.1 X.2.2.2.1 0 0 (uA bs u0)) u0 2 [(0, .ref (bs + a0)), (1, .int x1), (2, .int x2)] [] := by
  intro x2  e h g
  unfold fX12_wasThere_B2 at h
  refine v_iload_n C 2 dX12_wasThere_2 rfl rfl ?_
  refine v_aload_n C 0 dX12_wasThere_3 rfl rfl ?_
  refine v_getI C fdX12_189 dX12_wasThere_4 h (fun y1 h => ?_)
  refine v_icmpge C 28 dX12_wasThere_7 (by decide) h (fun _ h => ?_) (fun _ h => ?_)
  · refine v_sub [] [] rfl ?_
    exact hex ((Option.some.inj h).symm ▸ g)
  · refine v_aload_n C 0 dX12_wasThere_10 rfl rfl ?_
    refine v_getR C fdX12_35 dX12_wasThere_11 h (fun b2 h => ?_)
    refine v_iload_n C 2 dX12_wasThere_14 rfl rfl ?_
    refine v_ldI C dX12_wasThere_15 h (fun y3 h => ?_)
    refine v_iload_n C 1 dX12_wasThere_16 rfl rfl ?_
    refine v_icmpne C 22 dX12_wasThere_17 (by decide) h (fun _ h => ?_) (fun _ h => ?_)
    · refine v_iinc C 2 (x2 + (1 : Int32)) [(2, .int (x2 + (1 : Int32))), (0, .ref (bs + a0)), (1, .int x1)] dX12_wasThere_22 rfl rfl (by decide) rfl ?_
      refine v_goto C 2 dX12_wasThere_25 (by decide) ?_
      refine v_sub [(0, .ref (bs + a0)), (1, .int x1), (2, .int (x2 + (1 : Int32)))] [1, 2, 0] rfl ?_
      exact hk (x2 + (1 : Int32)) _ h g
    · refine v_iconst C (1 : Int32) dX12_wasThere_20 (by decide) ?_
      have h := hret (1 : Int32) ((Option.some.inj h).symm ▸ g)
      exact v_zret C dX12_wasThere_21 rfl h rfl
set_option maxRecDepth 100000 in
set_option maxHeartbeats 4000000 in
theorem mX12_wasThere {l : Launch} {D : UD} {bs : Nat} {a0 : Nat} {x1 : Int32} {u0 : UH} {r : Int32} (h : fX12_wasThere a0 x1 u0 = some r) : Met l yX12_wasThere (wz yX12_wasThere cX12_wasThere 3 (some .boolean)) rmX12_wasThere (va_Pc [.ref (bs + a0), .int x1] (uIn D bs u0)) (uQi D bs u0 u0 r) 0 0 (uA bs u0) := by
  refine uMet (by decide) (Nat.le_of_ble_eq_true rfl) ?_
  intro X tw hX C hin
  have C : uCx X D bs tw cX12_wasThere 3 RX12 (some .boolean) := C
  have hin : X.2.2.2.2.2.2.2.1.name = "wasThere" := hin
  refine v_L [(0, .ref (bs + a0)), (1, .int x1)] rfl ?_
  unfold fX12_wasThere at h
  refine v_iconst C (0 : Int32) dX12_wasThere_0 (by decide) ?_
  refine v_istore_n C [(2, .int (0 : Int32)), (0, .ref (bs + a0)), (1, .int x1)] dX12_wasThere_1 rfl (by decide) rfl ?_
  refine v_sub [(0, .ref (bs + a0)), (1, .int x1), (2, .int (0 : Int32))] [1, 2, 0] rfl ?_
  refine it1_S (V := fun x2 => VV X D bs u0 rmX12_wasThere 3 0 0 (MQ X.2.2.2.2.2.2.1 (uQi D bs u0 u0 r) X.2.2.2.2.2.1 X.2.2.2.1 0 0 (uA bs u0)) u0 2 [(0, .ref (bs + a0)), (1, .int x1), (2, .int x2)] []) h (fun k_ hk_ => wX12_wasThere_B2 C hin hk_ ?_ (fun x hx => Option.some.inj (show some x = some _ from hx)))
  intro h
  try dsimp only [Sum.elim_inl] at h
  refine v_iconst C (0 : Int32) dX12_wasThere_28 (by decide) ?_
  exact v_zret C dX12_wasThere_29 rfl (Option.some.inj h) rfl
set_option maxRecDepth 100000 in
set_option maxHeartbeats 4000000 in
theorem wX12_follow_B116 {X : UX} {D : UD} {bs tw : Nat} {u0 : UH} {v : UH} (C : uCx X D bs tw cX12_follow 9 RX12 none) (hin : X.2.2.2.2.2.2.2.1.name = "follow") {a0 : Nat} {x3 : Int32} {x5 : Int32} {x6 : Int32} {x7 : Int32} {u : UH} {G : Int32 → Prop} {k : Int32 → Option Int32} (hk : ∀ (x8 : Int32)  e, k x8  = some e → G e → VV X D bs u0 rmX12_follow 9 0 0 (MQ X.2.2.2.2.2.2.1 (uQv D bs u0 v) X.2.2.2.2.2.1 X.2.2.2.1 0 0 (uA bs u0)) u 116 [(0, .ref (bs + a0)), (3, .int x3), (5, .int x5), (6, .int x6), (7, .int x7), (8, .int x8)] []) (hex : ∀ (x8 : Int32) , G x8 → VV X D bs u0 rmX12_follow 9 0 0 (MQ X.2.2.2.2.2.2.1 (uQv D bs u0 v) X.2.2.2.2.2.1 X.2.2.2.1 0 0 (uA bs u0)) u 132 [(0, .ref (bs + a0)), (3, .int x3), (5, .int x5), (6, .int x6), (8, .int x8)] [])  : ∀ (x8 : Int32)  e, fX12_follow_B116 x7 u k x8  = some e → G e → VV X D bs u0 rmX12_follow 9 0 0 (MQ X.2.2.2.2.2.2.1 (uQv D bs u0 v) X.2.2.2.2.2.1 X.2.2.2.1 0 0 (uA bs u0)) u 116 [(0, .ref (bs + a0)), (3, .int x3), (5, .int x5), (6, .int x6), (7, .int x7), (8, .int x8)] [] := by
  intro x8  e h g
  unfold fX12_follow_B116 at h
  refine v_iload C 4 dX12_follow_116 rfl ?_
  refine v_iload C 5 dX12_follow_118 rfl ?_
  refine v_ishr C dX12_follow_120 ?_
  refine v_iconst C (1 : Int32) dX12_follow_121 (by decide) ?_
  refine v_iand C dX12_follow_122 ?_
  refine v_ifne C 132 dX12_follow_123 (by decide) h (fun _ h => ?_) (fun _ h => ?_)
  · refine v_sub [(0, .ref (bs + a0)), (3, .int x3), (5, .int x5), (6, .int x6), (8, .int x8)] [0, 1, 2, 3, 5] rfl ?_
    exact hex x8 ((Option.some.inj h).symm ▸ g)
  · refine v_iinc C 5 (x8 + (1 : Int32)) [(8, .int (x8 + (1 : Int32))), (0, .ref (bs + a0)), (3, .int x3), (5, .int x5), (6, .int x6), (7, .int x7)] dX12_follow_126 rfl rfl (by decide) rfl ?_
    refine v_goto C 116 dX12_follow_129 (by decide) ?_
    refine v_sub [(0, .ref (bs + a0)), (3, .int x3), (5, .int x5), (6, .int x6), (7, .int x7), (8, .int (x8 + (1 : Int32)))] [1, 2, 3, 4, 5, 0] rfl ?_
    exact hk (x8 + (1 : Int32)) _ h g
set_option maxRecDepth 100000 in
set_option maxHeartbeats 4000000 in
theorem wX12_follow_165 {X : UX} {D : UD} {bs tw : Nat} {u0 : UH} {v : UH} (C : uCx X D bs tw cX12_follow 9 RX12 none) (hin : X.2.2.2.2.2.2.2.1.name = "follow") {a0 : Nat}  {G : UH → Prop} {k : Int32 → Int32 → Int32 → UH → Option UH} (hk : ∀ (x2 : Int32) (x3 : Int32) (x4 : Int32) (u' : UH) e, k x2 x3 x4 u' = some e → G e → VV X D bs u0 rmX12_follow 9 0 0 (MQ X.2.2.2.2.2.2.1 (uQv D bs u0 v) X.2.2.2.2.2.1 X.2.2.2.1 0 0 (uA bs u0)) u' 15 [(0, .ref (bs + a0)), (2, .int x2), (3, .int x3), (4, .int x4)] []) (hex : ∀  (u' : UH), G u' → VV X D bs u0 rmX12_follow 9 0 0 (MQ X.2.2.2.2.2.2.1 (uQv D bs u0 v) X.2.2.2.2.2.1 X.2.2.2.1 0 0 (uA bs u0)) u' 195 [] [])  {x2 : Int32} {x3 : Int32} {s0 : Int32} {s1 : Nat} {u : UH} {e : UH} (h : fX12_follow_165 k a0 x2 x3 s0 s1 u = some e) (g : G e) : VV X D bs u0 rmX12_follow 9 0 0 (MQ X.2.2.2.2.2.2.1 (uQv D bs u0 v) X.2.2.2.2.2.1 X.2.2.2.1 0 0 (uA bs u0)) u 165 [(0, .ref (bs + a0)), (2, .int x2), (3, .int x3)] [.int s0, .ref (bs + s1)] := by
  unfold fX12_follow_165 at h
  refine v_putI C fdX12_192 (fun h => by cases h) dX12_follow_165 h (fun u17 h => ?_)
  refine v_iload_n C 1 dX12_follow_168 rfl rfl ?_
  refine v_iflt C 189 dX12_follow_169 (by decide) h (fun _ h => ?_) (fun _ h => ?_)
  · refine v_iconst C (0 : Int32) dX12_follow_189 (by decide) ?_
    refine v_istore C [(4, .int (0 : Int32)), (0, .ref (bs + a0)), (2, .int x2), (3, .int x3)] dX12_follow_190 (by decide) rfl ?_
    refine v_goto C 15 dX12_follow_192 (by decide) ?_
    refine v_sub [(0, .ref (bs + a0)), (2, .int x2), (3, .int x3), (4, .int (0 : Int32))] [1, 2, 3, 0] rfl ?_
    exact hk x2 x3 (0 : Int32) u17 _ h g
  · refine v_aload_n C 0 dX12_follow_172 rfl rfl ?_
    refine v_bipush C (32 : Int32) dX12_follow_173 (by decide) ?_
    refine v_iload_n C 1 dX12_follow_175 rfl rfl ?_
    refine v_imul C dX12_follow_176 ?_
    refine v_iload_n C 2 dX12_follow_177 rfl rfl ?_
    refine v_iadd C dX12_follow_178 ?_
    obtain ⟨y18, h1, h⟩ := ob_some h
    obtain ⟨hkd, h1⟩ := kd_some h1
    refine v_goi (rn_V C gcX12_195 (RX12, TX12, 33) rfl rfl (by decide) hkd (mX12_wasThere h1) ⟨rfl, rfl⟩ rfl ⟨Nat.le_of_ble_eq_true rfl, Nat.le_of_ble_eq_true rfl⟩ (rest := []) rfl (Nat.le_of_ble_eq_true rfl) ⟨Nat.le_of_ble_eq_true rfl, Nat.le_of_ble_eq_true rfl⟩ dX12_follow_179) ?_
    refine v_ifne C 189 dX12_follow_182 (by decide) h (fun _ h => ?_) (fun _ h => ?_)
    · refine v_iconst C (0 : Int32) dX12_follow_189 (by decide) ?_
      refine v_istore C [(4, .int (0 : Int32)), (0, .ref (bs + a0)), (2, .int x2), (3, .int x3)] dX12_follow_190 (by decide) rfl ?_
      refine v_goto C 15 dX12_follow_192 (by decide) ?_
      refine v_sub [(0, .ref (bs + a0)), (2, .int x2), (3, .int x3), (4, .int (0 : Int32))] [1, 2, 3, 0] rfl ?_
      exact hk x2 x3 (0 : Int32) u17 _ h g
    · refine v_iconst C (1 : Int32) dX12_follow_185 (by decide) ?_
      refine v_goto C 190 dX12_follow_186 (by decide) ?_
      refine v_istore C [(4, .int (1 : Int32)), (0, .ref (bs + a0)), (2, .int x2), (3, .int x3)] dX12_follow_190 (by decide) rfl ?_
      refine v_goto C 15 dX12_follow_192 (by decide) ?_
      refine v_sub [(0, .ref (bs + a0)), (2, .int x2), (3, .int x3), (4, .int (1 : Int32))] [1, 2, 3, 0] rfl ?_
      exact hk x2 x3 (1 : Int32) u17 _ h g
set_option maxRecDepth 100000 in
set_option maxHeartbeats 4000000 in
theorem wX12_follow_105 {X : UX} {D : UD} {bs tw : Nat} {u0 : UH} {v : UH} (C : uCx X D bs tw cX12_follow 9 RX12 none) (hin : X.2.2.2.2.2.2.2.1.name = "follow") {a0 : Nat}  {G : UH → Prop} {k : Int32 → Int32 → Int32 → UH → Option UH} (hk : ∀ (x2 : Int32) (x3 : Int32) (x4 : Int32) (u' : UH) e, k x2 x3 x4 u' = some e → G e → VV X D bs u0 rmX12_follow 9 0 0 (MQ X.2.2.2.2.2.2.1 (uQv D bs u0 v) X.2.2.2.2.2.1 X.2.2.2.1 0 0 (uA bs u0)) u' 15 [(0, .ref (bs + a0)), (2, .int x2), (3, .int x3), (4, .int x4)] []) (hex : ∀  (u' : UH), G u' → VV X D bs u0 rmX12_follow 9 0 0 (MQ X.2.2.2.2.2.2.1 (uQv D bs u0 v) X.2.2.2.2.2.1 X.2.2.2.1 0 0 (uA bs u0)) u' 195 [] [])  {x2 : Int32} {x3 : Int32} {x4 : Int32} {x5 : Int32} {x6 : Int32} {x7 : Int32} {s0 : Int32} {s1 : Nat} {u : UH} {e : UH} (h : fX12_follow_105 k a0 x2 x3 x4 x5 x6 x7 s0 s1 u = some e) (g : G e) : VV X D bs u0 rmX12_follow 9 0 0 (MQ X.2.2.2.2.2.2.1 (uQv D bs u0 v) X.2.2.2.2.2.1 X.2.2.2.1 0 0 (uA bs u0)) u 105 [(0, .ref (bs + a0)), (2, .int x2), (3, .int x3), (4, .int x4), (5, .int x5), (6, .int x6), (7, .int x7)] [.int s0, .ref (bs + s1)] := by
  unfold fX12_follow_105 at h
  refine v_putI C fdX12_192 (fun h => by cases h) dX12_follow_105 h (fun u11 h => ?_)
  refine v_iload C 3 dX12_follow_108 rfl ?_
  refine v_ifeq C 192 dX12_follow_110 (by decide) h (fun _ h => ?_) (fun _ h => ?_)
  · refine v_goto C 15 dX12_follow_192 (by decide) ?_
    refine v_sub [(0, .ref (bs + a0)), (2, .int x2), (3, .int x3), (4, .int x4)] [0, 1, 2, 3] rfl ?_
    exact hk x2 x3 x4 u11 _ h g
  · refine v_iconst C (0 : Int32) dX12_follow_113 (by decide) ?_
    refine v_istore C [(8, .int (0 : Int32)), (0, .ref (bs + a0)), (2, .int x2), (3, .int x3), (4, .int x4), (5, .int x5), (6, .int x6), (7, .int x7)] dX12_follow_114 (by decide) rfl ?_
    refine v_sub [(0, .ref (bs + a0)), (3, .int x3), (5, .int x5), (6, .int x6), (7, .int x7), (8, .int (0 : Int32))] [1, 3, 5, 6, 7, 0] rfl ?_
    refine it1_O (V := fun x8 => VV X D bs u0 rmX12_follow 9 0 0 (MQ X.2.2.2.2.2.2.1 (uQv D bs u0 v) X.2.2.2.2.2.1 X.2.2.2.1 0 0 (uA bs u0)) u11 116 [(0, .ref (bs + a0)), (3, .int x3), (5, .int x5), (6, .int x6), (7, .int x7), (8, .int x8)] []) h (fun k_ hk_ => wX12_follow_B116 C hin hk_ ?_ )
    intro z13 h
    try dsimp only [Sum.elim_inl] at h
    refine v_aload_n C 0 dX12_follow_132 rfl rfl ?_
    refine v_iload C 2 dX12_follow_133 rfl ?_
    refine v_iload C 3 dX12_follow_135 rfl ?_
    refine v_iload_n C 1 dX12_follow_137 rfl rfl ?_
    obtain ⟨y14, h1, h⟩ := ob_some h
    obtain ⟨hkd, h1⟩ := kd_some h1
    refine v_goi (rn_V C gcX12_156 (RX12, TX12, 33) rfl rfl (by decide) hkd (mX12_rewritten h1) ⟨rfl, rfl⟩ rfl ⟨Nat.le_of_ble_eq_true rfl, Nat.le_of_ble_eq_true rfl⟩ (rest := []) rfl (Nat.le_of_ble_eq_true rfl) ⟨Nat.le_of_ble_eq_true rfl, Nat.le_of_ble_eq_true rfl⟩ dX12_follow_138) ?_
    refine v_istore_n C [(3, .int y14), (0, .ref (bs + a0)), (5, .int x5), (6, .int x6), (8, .int z13)] dX12_follow_141 rfl (by decide) rfl ?_
    refine v_aload_n C 1 dX12_follow_142 rfl rfl ?_
    refine v_getR C fdX12_7 dX12_follow_143 h (fun b15 h => ?_)
    refine v_iconst C (4 : Int32) dX12_follow_146 (by decide) ?_
    refine v_iload C 2 dX12_follow_147 rfl ?_
    refine v_imul C dX12_follow_149 ?_
    refine v_iload C 4 dX12_follow_150 rfl ?_
    refine v_iadd C dX12_follow_152 ?_
    refine v_ldI C dX12_follow_153 h (fun y16 h => ?_)
    refine v_istore_n C [(2, .int y16), (3, .int y14), (0, .ref (bs + a0)), (5, .int x5), (6, .int x6), (8, .int z13)] dX12_follow_154 rfl (by decide) rfl ?_
    refine v_aload_n C 2 dX12_follow_155 rfl rfl ?_
    refine v_iload_n C 0 dX12_follow_156 rfl rfl ?_
    refine v_ifge C 164 dX12_follow_157 (by decide) h (fun _ h => ?_) (fun _ h => ?_)
    · refine v_iconst C (3 : Int32) dX12_follow_164 (by decide) ?_
      refine v_sub [(0, .ref (bs + a0)), (2, .int y16), (3, .int y14)] [2, 0, 1] rfl ?_
      exact wX12_follow_165 C hin hk hex  h g
    · refine v_iconst C (0 : Int32) dX12_follow_160 (by decide) ?_
      refine v_goto C 165 dX12_follow_161 (by decide) ?_
      refine v_sub [(0, .ref (bs + a0)), (2, .int y16), (3, .int y14)] [2, 0, 1] rfl ?_
      exact wX12_follow_165 C hin hk hex  h g
set_option maxRecDepth 100000 in
set_option maxHeartbeats 4000000 in
theorem wX12_follow_92 {X : UX} {D : UD} {bs tw : Nat} {u0 : UH} {v : UH} (C : uCx X D bs tw cX12_follow 9 RX12 none) (hin : X.2.2.2.2.2.2.2.1.name = "follow") {a0 : Nat}  {G : UH → Prop} {k : Int32 → Int32 → Int32 → UH → Option UH} (hk : ∀ (x2 : Int32) (x3 : Int32) (x4 : Int32) (u' : UH) e, k x2 x3 x4 u' = some e → G e → VV X D bs u0 rmX12_follow 9 0 0 (MQ X.2.2.2.2.2.2.1 (uQv D bs u0 v) X.2.2.2.2.2.1 X.2.2.2.1 0 0 (uA bs u0)) u' 15 [(0, .ref (bs + a0)), (2, .int x2), (3, .int x3), (4, .int x4)] []) (hex : ∀  (u' : UH), G u' → VV X D bs u0 rmX12_follow 9 0 0 (MQ X.2.2.2.2.2.2.1 (uQv D bs u0 v) X.2.2.2.2.2.1 X.2.2.2.1 0 0 (uA bs u0)) u' 195 [] [])  {x2 : Int32} {x3 : Int32} {x5 : Int32} {x6 : Int32} {x7 : Int32} {s0 : Int32} {u : UH} {e : UH} (h : fX12_follow_92 k a0 x2 x3 x5 x6 x7 s0 u = some e) (g : G e) : VV X D bs u0 rmX12_follow 9 0 0 (MQ X.2.2.2.2.2.2.1 (uQv D bs u0 v) X.2.2.2.2.2.1 X.2.2.2.1 0 0 (uA bs u0)) u 92 [(0, .ref (bs + a0)), (2, .int x2), (3, .int x3), (5, .int x5), (6, .int x6), (7, .int x7)] [.int s0] := by
  unfold fX12_follow_92 at h
  refine v_istore C [(4, .int s0), (0, .ref (bs + a0)), (2, .int x2), (3, .int x3), (5, .int x5), (6, .int x6), (7, .int x7)] dX12_follow_92 (by decide) rfl ?_
  refine v_aload_n C 1 dX12_follow_94 rfl rfl ?_
  refine v_iload C 5 dX12_follow_95 rfl ?_
  refine v_ifge C 104 dX12_follow_97 (by decide) h (fun _ h => ?_) (fun _ h => ?_)
  · refine v_iconst C (1 : Int32) dX12_follow_104 (by decide) ?_
    refine v_sub [(0, .ref (bs + a0)), (2, .int x2), (3, .int x3), (4, .int s0), (5, .int x5), (6, .int x6), (7, .int x7)] [1, 2, 3, 0, 4, 5, 6] rfl ?_
    exact wX12_follow_105 C hin hk hex  h g
  · refine v_iconst C (2 : Int32) dX12_follow_100 (by decide) ?_
    refine v_goto C 105 dX12_follow_101 (by decide) ?_
    refine v_sub [(0, .ref (bs + a0)), (2, .int x2), (3, .int x3), (4, .int s0), (5, .int x5), (6, .int x6), (7, .int x7)] [1, 2, 3, 0, 4, 5, 6] rfl ?_
    exact wX12_follow_105 C hin hk hex  h g
set_option maxRecDepth 100000 in
set_option maxHeartbeats 4000000 in
theorem wX12_follow_80 {X : UX} {D : UD} {bs tw : Nat} {u0 : UH} {v : UH} (C : uCx X D bs tw cX12_follow 9 RX12 none) (hin : X.2.2.2.2.2.2.2.1.name = "follow") {a0 : Nat}  {G : UH → Prop} {k : Int32 → Int32 → Int32 → UH → Option UH} (hk : ∀ (x2 : Int32) (x3 : Int32) (x4 : Int32) (u' : UH) e, k x2 x3 x4 u' = some e → G e → VV X D bs u0 rmX12_follow 9 0 0 (MQ X.2.2.2.2.2.2.1 (uQv D bs u0 v) X.2.2.2.2.2.1 X.2.2.2.1 0 0 (uA bs u0)) u' 15 [(0, .ref (bs + a0)), (2, .int x2), (3, .int x3), (4, .int x4)] []) (hex : ∀  (u' : UH), G u' → VV X D bs u0 rmX12_follow 9 0 0 (MQ X.2.2.2.2.2.2.1 (uQv D bs u0 v) X.2.2.2.2.2.1 X.2.2.2.1 0 0 (uA bs u0)) u' 195 [] [])  {x2 : Int32} {x3 : Int32} {x5 : Int32} {x6 : Int32} {s0 : Int32} {u : UH} {e : UH} (h : fX12_follow_80 k a0 x2 x3 x5 x6 s0 u = some e) (g : G e) : VV X D bs u0 rmX12_follow 9 0 0 (MQ X.2.2.2.2.2.2.1 (uQv D bs u0 v) X.2.2.2.2.2.1 X.2.2.2.1 0 0 (uA bs u0)) u 80 [(0, .ref (bs + a0)), (2, .int x2), (3, .int x3), (5, .int x5), (6, .int x6)] [.int s0] := by
  unfold fX12_follow_80 at h
  refine v_istore C [(7, .int s0), (0, .ref (bs + a0)), (2, .int x2), (3, .int x3), (5, .int x5), (6, .int x6)] dX12_follow_80 (by decide) rfl ?_
  refine v_iload C 0 dX12_follow_82 rfl ?_
  refine v_ifeq C 91 dX12_follow_84 (by decide) h (fun _ h => ?_) (fun _ h => ?_)
  · refine v_iconst C (0 : Int32) dX12_follow_91 (by decide) ?_
    refine v_sub [(0, .ref (bs + a0)), (2, .int x2), (3, .int x3), (5, .int x5), (6, .int x6), (7, .int s0)] [1, 2, 3, 4, 5, 0] rfl ?_
    exact wX12_follow_92 C hin hk hex  h g
  · refine v_iconst C (1 : Int32) dX12_follow_87 (by decide) ?_
    refine v_goto C 92 dX12_follow_88 (by decide) ?_
    refine v_sub [(0, .ref (bs + a0)), (2, .int x2), (3, .int x3), (5, .int x5), (6, .int x6), (7, .int s0)] [1, 2, 3, 4, 5, 0] rfl ?_
    exact wX12_follow_92 C hin hk hex  h g
set_option maxRecDepth 100000 in
set_option maxHeartbeats 4000000 in
theorem wX12_follow_B15 {X : UX} {D : UD} {bs tw : Nat} {u0 : UH} {v : UH} (C : uCx X D bs tw cX12_follow 9 RX12 none) (hin : X.2.2.2.2.2.2.2.1.name = "follow") {a0 : Nat}  {G : UH → Prop} {k : Int32 → Int32 → Int32 → UH → Option UH} (hk : ∀ (x2 : Int32) (x3 : Int32) (x4 : Int32) (u' : UH) e, k x2 x3 x4 u' = some e → G e → VV X D bs u0 rmX12_follow 9 0 0 (MQ X.2.2.2.2.2.2.1 (uQv D bs u0 v) X.2.2.2.2.2.1 X.2.2.2.1 0 0 (uA bs u0)) u' 15 [(0, .ref (bs + a0)), (2, .int x2), (3, .int x3), (4, .int x4)] []) (hex : ∀  (u' : UH), G u' → VV X D bs u0 rmX12_follow 9 0 0 (MQ X.2.2.2.2.2.2.1 (uQv D bs u0 v) X.2.2.2.2.2.1 X.2.2.2.1 0 0 (uA bs u0)) u' 195 [] [])  : ∀ (x2 : Int32) (x3 : Int32) (x4 : Int32) (u : UH) e, fX12_follow_B15 a0  k x2 x3 x4 u = some e → G e → VV X D bs u0 rmX12_follow 9 0 0 (MQ X.2.2.2.2.2.2.1 (uQv D bs u0 v) X.2.2.2.2.2.1 X.2.2.2.1 0 0 (uA bs u0)) u 15 [(0, .ref (bs + a0)), (2, .int x2), (3, .int x3), (4, .int x4)] [] := by
  intro x2 x3 x4 u e h g
  unfold fX12_follow_B15 at h
  refine v_iload C 3 dX12_follow_15 rfl ?_
  refine v_ifeq C 195 dX12_follow_17 (by decide) h (fun _ h => ?_) (fun _ h => ?_)
  · refine v_sub [] [] rfl ?_
    exact hex u ((Option.some.inj h).symm ▸ g)
  · refine v_aload_n C 0 dX12_follow_20 rfl rfl ?_
    refine v_getR C fdX12_35 dX12_follow_21 h (fun b3 h => ?_)
    refine v_aload_n C 0 dX12_follow_24 rfl rfl ?_
    refine v_getI C fdX12_189 dX12_follow_25 h (fun y4 h => ?_)
    refine v_bipush C (32 : Int32) dX12_follow_28 (by decide) ?_
    refine v_iload_n C 1 dX12_follow_30 rfl rfl ?_
    refine v_imul C dX12_follow_31 ?_
    refine v_iload_n C 2 dX12_follow_32 rfl rfl ?_
    refine v_iadd C dX12_follow_33 ?_
    refine v_stI C dX12_follow_34 h (fun u5 h => ?_)
    refine v_aload_n C 0 dX12_follow_35 rfl rfl ?_
    refine v_dup C dX12_follow_36 rfl ?_
    refine v_getI C fdX12_189 dX12_follow_37 h (fun y6 h => ?_)
    refine v_iconst C (1 : Int32) dX12_follow_40 (by decide) ?_
    refine v_iadd C dX12_follow_41 ?_
    refine v_putI C fdX12_189 (fun h => by cases h) dX12_follow_42 h (fun u7 h => ?_)
    refine v_iload_n C 1 dX12_follow_45 rfl rfl ?_
    refine v_iconst C (4 : Int32) dX12_follow_46 (by decide) ?_
    refine v_idiv C dX12_follow_47 (by decide) ?_
    refine v_lti h (fun y8 h => ?_)
    refine v_istore C [(5, .int y8), (0, .ref (bs + a0)), (2, .int x2), (3, .int x3), (4, .int x4)] dX12_follow_48 (by decide) rfl ?_
    refine v_aload_n C 1 dX12_follow_50 rfl rfl ?_
    refine v_iload C 0 dX12_follow_51 rfl ?_
    refine v_iload_n C 2 dX12_follow_53 rfl rfl ?_
    refine v_iconst C (4 : Int32) dX12_follow_54 (by decide) ?_
    refine v_irem C dX12_follow_55 (by decide) ?_
    refine v_iload_n C 3 dX12_follow_56 rfl rfl ?_
    obtain ⟨y9, h1, h⟩ := ob_some h
    obtain ⟨hkd, h1⟩ := kd_some h1
    refine v_goi (rn_V C gcX12_150 (RX12, TX12, 33) rfl rfl (by decide) hkd (mX12_handler h1) ⟨rfl, rfl⟩ rfl ⟨Nat.le_of_ble_eq_true rfl, Nat.le_of_ble_eq_true rfl⟩ (rest := []) rfl (Nat.le_of_ble_eq_true rfl) ⟨Nat.le_of_ble_eq_true rfl, Nat.le_of_ble_eq_true rfl⟩ dX12_follow_57) ?_
    refine v_istore C [(6, .int y9), (5, .int y8), (0, .ref (bs + a0)), (2, .int x2), (3, .int x3), (4, .int x4)] dX12_follow_60 (by decide) rfl ?_
    refine v_iload C 0 dX12_follow_62 rfl ?_
    refine v_ifge C 71 dX12_follow_64 (by decide) h (fun _ h => ?_) (fun _ h => ?_)
    · refine v_aload_n C 2 dX12_follow_71 rfl rfl ?_
      refine v_iload C 1 dX12_follow_72 rfl ?_
      refine v_iload C 0 dX12_follow_74 rfl ?_
      refine v_iconst C (3 : Int32) dX12_follow_76 (by decide) ?_
      obtain ⟨y10, h1, h⟩ := ob_some h
      obtain ⟨hkd, h1⟩ := kd_some h1
      refine v_goi (rn_V C gcX12_114 (RX12, TX12, 33) rfl rfl (by decide) hkd (mX12_of h1) ⟨rfl, rfl⟩ rfl ⟨Nat.le_of_ble_eq_true rfl, Nat.le_of_ble_eq_true rfl⟩ (rest := []) rfl (Nat.le_of_ble_eq_true rfl) ⟨Nat.le_of_ble_eq_true rfl, Nat.le_of_ble_eq_true rfl⟩ dX12_follow_77) ?_
      refine v_sub [(0, .ref (bs + a0)), (2, .int x2), (3, .int x3), (5, .int y8), (6, .int y9)] [2, 3, 4, 1, 0] rfl ?_
      exact wX12_follow_80 C hin hk hex  h g
    · refine v_iconst C (0 : Int32) dX12_follow_67 (by decide) ?_
      refine v_goto C 80 dX12_follow_68 (by decide) ?_
      refine v_sub [(0, .ref (bs + a0)), (2, .int x2), (3, .int x3), (5, .int y8), (6, .int y9)] [2, 3, 4, 1, 0] rfl ?_
      exact wX12_follow_80 C hin hk hex  h g
set_option maxRecDepth 100000 in
set_option maxHeartbeats 4000000 in
theorem mX12_follow {l : Launch} {D : UD} {bs : Nat} {a0 : Nat} {x1 : Int32} {u0 : UH} {v : UH} (h : fX12_follow a0 x1 u0 = some v) : Met l yX12_follow (wz yX12_follow cX12_follow 9 none) rmX12_follow (va_Pc [.ref (bs + a0), .int x1] (uIn D bs u0)) (uQv D bs u0 v) 0 0 (uA bs u0) := by
  refine uMet (by decide) (Nat.le_of_ble_eq_true rfl) ?_
  intro X tw hX C hin
  have C : uCx X D bs tw cX12_follow 9 RX12 none := C
  have hin : X.2.2.2.2.2.2.2.1.name = "follow" := hin
  refine v_L [(0, .ref (bs + a0)), (1, .int x1)] rfl ?_
  unfold fX12_follow at h
  refine v_aload_n C 0 dX12_follow_0 rfl rfl ?_
  refine v_iconst C (0 : Int32) dX12_follow_1 (by decide) ?_
  refine v_putI C fdX12_189 (fun h => by cases h) dX12_follow_2 h (fun u1 h => ?_)
  refine v_aload_n C 0 dX12_follow_5 rfl rfl ?_
  refine v_getI C fdX12_79 dX12_follow_6 h (fun y2 h => ?_)
  refine v_istore_n C [(2, .int y2), (0, .ref (bs + a0)), (1, .int x1)] dX12_follow_9 rfl (by decide) rfl ?_
  refine v_iload_n C 2 dX12_follow_10 rfl rfl ?_
  refine v_istore_n C [(3, .int x1), (2, .int y2), (0, .ref (bs + a0)), (1, .int x1)] dX12_follow_11 rfl (by decide) rfl ?_
  refine v_iconst C (1 : Int32) dX12_follow_12 (by decide) ?_
  refine v_istore C [(4, .int (1 : Int32)), (3, .int x1), (2, .int y2), (0, .ref (bs + a0)), (1, .int x1)] dX12_follow_13 (by decide) rfl ?_
  refine v_sub [(0, .ref (bs + a0)), (2, .int y2), (3, .int x1), (4, .int (1 : Int32))] [3, 2, 1, 0] rfl ?_
  refine it4_O (V := fun x2 x3 x4 u' => VV X D bs u0 rmX12_follow 9 0 0 (MQ X.2.2.2.2.2.2.1 (uQv D bs u0 v) X.2.2.2.2.2.1 X.2.2.2.1 0 0 (uA bs u0)) u' 15 [(0, .ref (bs + a0)), (2, .int x2), (3, .int x3), (4, .int x4)] []) h (fun k_ hk_ => wX12_follow_B15 C hin hk_ ?_ )
  intro z20 h
  try dsimp only [Sum.elim_inl] at h
  exact v_vret C dX12_follow_195 (Option.some.inj h)
set_option maxRecDepth 100000 in
set_option maxHeartbeats 4000000 in
theorem mX12_trace {l : Launch} {D : UD} {bs : Nat} {a0 : Nat} {x1 : Int32} {x2 : Int32} {u0 : UH} {r : Int32} {v : UH} (h : fX12_trace a0 x1 x2 u0 = some (r, v)) : Met l yX12_trace (wz yX12_trace cX12_trace 4 (some .int)) rmX12_trace (va_Pc [.ref (bs + a0), .int x1, .int x2] (uIn D bs u0)) (uQi D bs u0 v r) 0 0 (uA bs u0) := by
  refine uMet (by decide) (Nat.le_of_ble_eq_true rfl) ?_
  intro X tw hX C hin
  have C : uCx X D bs tw cX12_trace 4 RX12 (some .int) := C
  have hin : X.2.2.2.2.2.2.2.1.name = "trace" := hin
  refine v_L [(0, .ref (bs + a0)), (1, .int x1), (2, .int x2)] rfl ?_
  unfold fX12_trace at h
  refine v_aload_n C 0 dX12_trace_0 rfl rfl ?_
  refine v_iload_n C 1 dX12_trace_1 rfl rfl ?_
  obtain ⟨y1, h1, h⟩ := ob_some h
  obtain ⟨hkd, h1⟩ := kd_some h1
  refine v_goi (rn_V C gcX12_153 (RX12, TX12, 33) rfl rfl (by decide) hkd (mX12_isInjected h1) ⟨rfl, rfl⟩ rfl ⟨Nat.le_of_ble_eq_true rfl, Nat.le_of_ble_eq_true rfl⟩ (rest := []) rfl (Nat.le_of_ble_eq_true rfl) ⟨Nat.le_of_ble_eq_true rfl, Nat.le_of_ble_eq_true rfl⟩ dX12_trace_2) ?_
  refine v_ifeq C 12 dX12_trace_5 (by decide) h (fun _ h => ?_) (fun _ h => ?_)
  · refine v_bipush C (-3 : Int32) dX12_trace_12 (by decide) ?_
    exact v_iret C dX12_trace_14 (Prod.mk.inj (Option.some.inj h)).2 (Prod.mk.inj (Option.some.inj h)).1
  · refine v_iload_n C 2 dX12_trace_8 rfl rfl ?_
    refine v_ifge C 15 dX12_trace_9 (by decide) h (fun _ h => ?_) (fun _ h => ?_)
    · refine v_aload_n C 0 dX12_trace_15 rfl rfl ?_
      refine v_iload_n C 1 dX12_trace_16 rfl rfl ?_
      obtain ⟨u2, h1, h⟩ := ob_some h
      obtain ⟨hkd, h1⟩ := kd_some h1
      refine v_gov (rn_V C gcX12_198 (RX12, TX12, 33) rfl rfl (by decide) hkd (mX12_follow h1) ⟨rfl, rfl⟩ rfl ⟨Nat.le_of_ble_eq_true rfl, Nat.le_of_ble_eq_true rfl⟩ (rest := []) rfl (Nat.le_of_ble_eq_true rfl) ⟨Nat.le_of_ble_eq_true rfl, Nat.le_of_ble_eq_true rfl⟩ dX12_trace_17) ?_
      refine v_iload_n C 2 dX12_trace_20 rfl rfl ?_
      refine v_aload_n C 0 dX12_trace_21 rfl rfl ?_
      refine v_getI C fdX12_189 dX12_trace_22 h (fun y3 h => ?_)
      refine v_icmplt C 31 dX12_trace_25 (by decide) h (fun _ h => ?_) (fun _ h => ?_)
      · refine v_aload_n C 0 dX12_trace_31 rfl rfl ?_
        refine v_getR C fdX12_35 dX12_trace_32 h (fun b4 h => ?_)
        refine v_iload_n C 2 dX12_trace_35 rfl rfl ?_
        refine v_ldI C dX12_trace_36 h (fun y5 h => ?_)
        refine v_bipush C (32 : Int32) dX12_trace_37 (by decide) ?_
        refine v_idiv C dX12_trace_39 (by decide) ?_
        refine v_lti h (fun y6 h => ?_)
        refine v_istore_n C [(3, .int y6), (0, .ref (bs + a0)), (1, .int x1), (2, .int x2)] dX12_trace_40 rfl (by decide) rfl ?_
        refine v_sipush C (1000 : Int32) dX12_trace_41 (by decide) ?_
        refine v_iload_n C 0 dX12_trace_44 rfl rfl ?_
        refine v_iconst C (4 : Int32) dX12_trace_45 (by decide) ?_
        refine v_idiv C dX12_trace_46 (by decide) ?_
        refine v_imul C dX12_trace_47 ?_
        refine v_bipush C (100 : Int32) dX12_trace_48 (by decide) ?_
        refine v_iload_n C 0 dX12_trace_50 rfl rfl ?_
        refine v_iconst C (4 : Int32) dX12_trace_51 (by decide) ?_
        refine v_irem C dX12_trace_52 (by decide) ?_
        refine v_imul C dX12_trace_53 ?_
        refine v_iadd C dX12_trace_54 ?_
        refine v_aload_n C 1 dX12_trace_55 rfl rfl ?_
        refine v_getR C fdX12_35 dX12_trace_56 h (fun b7 h => ?_)
        refine v_iload_n C 3 dX12_trace_59 rfl rfl ?_
        refine v_ldI C dX12_trace_60 h (fun y8 h => ?_)
        refine v_bipush C (32 : Int32) dX12_trace_61 (by decide) ?_
        refine v_irem C dX12_trace_63 (by decide) ?_
        refine v_iadd C dX12_trace_64 ?_
        exact v_iret C dX12_trace_65 (Prod.mk.inj (Option.some.inj h)).2 (Prod.mk.inj (Option.some.inj h)).1
      · refine v_bipush C (-6 : Int32) dX12_trace_28 (by decide) ?_
        exact v_iret C dX12_trace_30 (Prod.mk.inj (Option.some.inj h)).2 (Prod.mk.inj (Option.some.inj h)).1
    · refine v_bipush C (-3 : Int32) dX12_trace_12 (by decide) ?_
      exact v_iret C dX12_trace_14 (Prod.mk.inj (Option.some.inj h)).2 (Prod.mk.inj (Option.some.inj h)).1
set_option maxRecDepth 100000 in
set_option maxHeartbeats 4000000 in
theorem mX12_traceEnd {l : Launch} {D : UD} {bs : Nat} {a0 : Nat} {x1 : Int32} {u0 : UH} {r : Int32} {v : UH} (h : fX12_traceEnd a0 x1 u0 = some (r, v)) : Met l yX12_traceEnd (wz yX12_traceEnd cX12_traceEnd 2 (some .int)) rmX12_traceEnd (va_Pc [.ref (bs + a0), .int x1] (uIn D bs u0)) (uQi D bs u0 v r) 0 0 (uA bs u0) := by
  refine uMet (by decide) (Nat.le_of_ble_eq_true rfl) ?_
  intro X tw hX C hin
  have C : uCx X D bs tw cX12_traceEnd 2 RX12 (some .int) := C
  have hin : X.2.2.2.2.2.2.2.1.name = "traceEnd" := hin
  refine v_L [(0, .ref (bs + a0)), (1, .int x1)] rfl ?_
  unfold fX12_traceEnd at h
  refine v_aload_n C 0 dX12_traceEnd_0 rfl rfl ?_
  refine v_iload_n C 1 dX12_traceEnd_1 rfl rfl ?_
  obtain ⟨y1, h1, h⟩ := ob_some h
  obtain ⟨hkd, h1⟩ := kd_some h1
  refine v_goi (rn_V C gcX12_153 (RX12, TX12, 33) rfl rfl (by decide) hkd (mX12_isInjected h1) ⟨rfl, rfl⟩ rfl ⟨Nat.le_of_ble_eq_true rfl, Nat.le_of_ble_eq_true rfl⟩ (rest := []) rfl (Nat.le_of_ble_eq_true rfl) ⟨Nat.le_of_ble_eq_true rfl, Nat.le_of_ble_eq_true rfl⟩ dX12_traceEnd_2) ?_
  refine v_ifne C 11 dX12_traceEnd_5 (by decide) h (fun _ h => ?_) (fun _ h => ?_)
  · refine v_aload_n C 0 dX12_traceEnd_11 rfl rfl ?_
    refine v_iload_n C 1 dX12_traceEnd_12 rfl rfl ?_
    obtain ⟨u2, h1, h⟩ := ob_some h
    obtain ⟨hkd, h1⟩ := kd_some h1
    refine v_gov (rn_V C gcX12_198 (RX12, TX12, 33) rfl rfl (by decide) hkd (mX12_follow h1) ⟨rfl, rfl⟩ rfl ⟨Nat.le_of_ble_eq_true rfl, Nat.le_of_ble_eq_true rfl⟩ (rest := []) rfl (Nat.le_of_ble_eq_true rfl) ⟨Nat.le_of_ble_eq_true rfl, Nat.le_of_ble_eq_true rfl⟩ dX12_traceEnd_13) ?_
    refine v_aload_n C 0 dX12_traceEnd_16 rfl rfl ?_
    refine v_getI C fdX12_192 dX12_traceEnd_17 h (fun y3 h => ?_)
    exact v_iret C dX12_traceEnd_20 (Prod.mk.inj (Option.some.inj h)).2 (Prod.mk.inj (Option.some.inj h)).1
  · refine v_bipush C (-3 : Int32) dX12_traceEnd_8 (by decide) ?_
    exact v_iret C dX12_traceEnd_10 (Prod.mk.inj (Option.some.inj h)).2 (Prod.mk.inj (Option.some.inj h)).1
set_option maxRecDepth 100000 in
set_option maxHeartbeats 4000000 in
theorem wX12_isSafe_72 {X : UX} {D : UD} {bs tw : Nat} {u0 : UH} {r : Int32} (C : uCx X D bs tw cX12_isSafe 9 RX12 (some .boolean)) (hin : X.2.2.2.2.2.2.2.1.name = "isSafe") {a0 : Nat} {x2 : Int32} {x3 : Int32} {x4 : Int32}  {G : Int32 → Prop} {k : Int32 → Int32 → Option Int32} (hk : ∀ (x5 : Int32) (x6 : Int32)  e, k x5 x6  = some e → G e → VV X D bs u0 rmX12_isSafe 9 0 0 (MQ X.2.2.2.2.2.2.1 (uQi D bs u0 u0 r) X.2.2.2.2.2.1 X.2.2.2.1 0 0 (uA bs u0)) u0 21 [(0, .ref (bs + a0)), (2, .int x2), (3, .int x3), (4, .int x4), (5, .int x5), (6, .int x6)] []) (hex : ∀ (x5 : Int32) , G x5 → VV X D bs u0 rmX12_isSafe 9 0 0 (MQ X.2.2.2.2.2.2.1 (uQi D bs u0 u0 r) X.2.2.2.2.2.1 X.2.2.2.1 0 0 (uA bs u0)) u0 120 [(5, .int x5)] [])  {x5 : Int32} {x6 : Int32} {x7 : Int32} {s0 : Int32}  {e : Int32} (h : fX12_isSafe_72 k a0 x2 x3 x4 x5 x6 x7 s0 u0 = some e) (g : G e) : VV X D bs u0 rmX12_isSafe 9 0 0 (MQ X.2.2.2.2.2.2.1 (uQi D bs u0 u0 r) X.2.2.2.2.2.1 X.2.2.2.1 0 0 (uA bs u0)) u0 72 [(0, .ref (bs + a0)), (2, .int x2), (3, .int x3), (4, .int x4), (5, .int x5), (6, .int x6), (7, .int x7)] [.int s0] := by
  unfold fX12_isSafe_72 at h
  refine v_istore C [(8, .int s0), (0, .ref (bs + a0)), (2, .int x2), (3, .int x3), (4, .int x4), (5, .int x5), (6, .int x6), (7, .int x7)] dX12_isSafe_72 (by decide) rfl ?_
  refine v_iload C 5 dX12_isSafe_74 rfl ?_
  refine v_ifeq C 111 dX12_isSafe_76 (by decide) h (fun _ h => ?_) (fun _ h => ?_)
  · refine v_iconst C (0 : Int32) dX12_isSafe_111 (by decide) ?_
    refine v_istore C [(5, .int (0 : Int32)), (8, .int s0), (0, .ref (bs + a0)), (2, .int x2), (3, .int x3), (4, .int x4), (6, .int x6), (7, .int x7)] dX12_isSafe_112 (by decide) rfl ?_
    refine v_iinc C 6 (x6 + (1 : Int32)) [(6, .int (x6 + (1 : Int32))), (5, .int (0 : Int32)), (8, .int s0), (0, .ref (bs + a0)), (2, .int x2), (3, .int x3), (4, .int x4), (7, .int x7)] dX12_isSafe_114 rfl rfl (by decide) rfl ?_
    refine v_goto C 21 dX12_isSafe_117 (by decide) ?_
    refine v_sub [(0, .ref (bs + a0)), (2, .int x2), (3, .int x3), (4, .int x4), (5, .int (0 : Int32)), (6, .int (x6 + (1 : Int32)))] [3, 4, 5, 6, 1, 0] rfl ?_
    exact hk (0 : Int32) (x6 + (1 : Int32)) _ h g
  · refine v_iload C 0 dX12_isSafe_79 rfl ?_
    refine v_ifeq C 107 dX12_isSafe_81 (by decide) h (fun _ h => ?_) (fun _ h => ?_)
    · refine v_iconst C (1 : Int32) dX12_isSafe_107 (by decide) ?_
      refine v_goto C 112 dX12_isSafe_108 (by decide) ?_
      refine v_istore C [(5, .int (1 : Int32)), (8, .int s0), (0, .ref (bs + a0)), (2, .int x2), (3, .int x3), (4, .int x4), (6, .int x6), (7, .int x7)] dX12_isSafe_112 (by decide) rfl ?_
      refine v_iinc C 6 (x6 + (1 : Int32)) [(6, .int (x6 + (1 : Int32))), (5, .int (1 : Int32)), (8, .int s0), (0, .ref (bs + a0)), (2, .int x2), (3, .int x3), (4, .int x4), (7, .int x7)] dX12_isSafe_114 rfl rfl (by decide) rfl ?_
      refine v_goto C 21 dX12_isSafe_117 (by decide) ?_
      refine v_sub [(0, .ref (bs + a0)), (2, .int x2), (3, .int x3), (4, .int x4), (5, .int (1 : Int32)), (6, .int (x6 + (1 : Int32)))] [3, 4, 5, 6, 1, 0] rfl ?_
      exact hk (1 : Int32) (x6 + (1 : Int32)) _ h g
    · refine v_aload_n C 1 dX12_isSafe_84 rfl rfl ?_
      refine v_getR C fdX12_38 dX12_isSafe_85 h (fun b6 h => ?_)
      refine v_iload C 7 dX12_isSafe_88 rfl ?_
      refine v_ldJ C dX12_isSafe_90 h (fun y7 h => ?_)
      refine v_aload_n C 1 dX12_isSafe_91 rfl rfl ?_
      refine v_iload_n C 3 dX12_isSafe_92 rfl rfl ?_
      refine v_iload C 4 dX12_isSafe_93 rfl ?_
      refine v_iload_n C 2 dX12_isSafe_95 rfl rfl ?_
      obtain ⟨y8, h1, h⟩ := ob_some h
      obtain ⟨hkd, h1⟩ := kd_some h1
      refine v_goi (rn_V C gcX12_156 (RX12, TX12, 33) rfl rfl (by decide) hkd (mX12_rewritten h1) ⟨rfl, rfl⟩ rfl ⟨Nat.le_of_ble_eq_true rfl, Nat.le_of_ble_eq_true rfl⟩ (rest := [.long y7]) rfl (Nat.le_of_ble_eq_true rfl) ⟨Nat.le_of_ble_eq_true rfl, Nat.le_of_ble_eq_true rfl⟩ dX12_isSafe_96) ?_
      refine v_lshr C dX12_isSafe_99 ?_
      refine v_lconst C (1 : Int64) dX12_isSafe_100 (by decide) ?_
      refine v_land C dX12_isSafe_101 ?_
      refine v_lconst C (1 : Int64) dX12_isSafe_102 (by decide) ?_
      refine v_lcmpne C 111 dX12_isSafe_103 dX12_isSafe_104 (by decide) h (fun _ h => ?_) (fun _ h => ?_)
      · refine v_iconst C (0 : Int32) dX12_isSafe_111 (by decide) ?_
        refine v_istore C [(5, .int (0 : Int32)), (8, .int s0), (0, .ref (bs + a0)), (2, .int x2), (3, .int x3), (4, .int x4), (6, .int x6), (7, .int x7)] dX12_isSafe_112 (by decide) rfl ?_
        refine v_iinc C 6 (x6 + (1 : Int32)) [(6, .int (x6 + (1 : Int32))), (5, .int (0 : Int32)), (8, .int s0), (0, .ref (bs + a0)), (2, .int x2), (3, .int x3), (4, .int x4), (7, .int x7)] dX12_isSafe_114 rfl rfl (by decide) rfl ?_
        refine v_goto C 21 dX12_isSafe_117 (by decide) ?_
        refine v_sub [(0, .ref (bs + a0)), (2, .int x2), (3, .int x3), (4, .int x4), (5, .int (0 : Int32)), (6, .int (x6 + (1 : Int32)))] [3, 4, 5, 6, 1, 0] rfl ?_
        exact hk (0 : Int32) (x6 + (1 : Int32)) _ h g
      · refine v_iconst C (1 : Int32) dX12_isSafe_107 (by decide) ?_
        refine v_goto C 112 dX12_isSafe_108 (by decide) ?_
        refine v_istore C [(5, .int (1 : Int32)), (8, .int s0), (0, .ref (bs + a0)), (2, .int x2), (3, .int x3), (4, .int x4), (6, .int x6), (7, .int x7)] dX12_isSafe_112 (by decide) rfl ?_
        refine v_iinc C 6 (x6 + (1 : Int32)) [(6, .int (x6 + (1 : Int32))), (5, .int (1 : Int32)), (8, .int s0), (0, .ref (bs + a0)), (2, .int x2), (3, .int x3), (4, .int x4), (7, .int x7)] dX12_isSafe_114 rfl rfl (by decide) rfl ?_
        refine v_goto C 21 dX12_isSafe_117 (by decide) ?_
        refine v_sub [(0, .ref (bs + a0)), (2, .int x2), (3, .int x3), (4, .int x4), (5, .int (1 : Int32)), (6, .int (x6 + (1 : Int32)))] [3, 4, 5, 6, 1, 0] rfl ?_
        exact hk (1 : Int32) (x6 + (1 : Int32)) _ h g
set_option maxRecDepth 100000 in
set_option maxHeartbeats 4000000 in
theorem wX12_isSafe_71 {X : UX} {D : UD} {bs tw : Nat} {u0 : UH} {r : Int32} (C : uCx X D bs tw cX12_isSafe 9 RX12 (some .boolean)) (hin : X.2.2.2.2.2.2.2.1.name = "isSafe") {a0 : Nat} {x2 : Int32} {x3 : Int32} {x4 : Int32}  {G : Int32 → Prop} {k : Int32 → Int32 → Option Int32} (hk : ∀ (x5 : Int32) (x6 : Int32)  e, k x5 x6  = some e → G e → VV X D bs u0 rmX12_isSafe 9 0 0 (MQ X.2.2.2.2.2.2.1 (uQi D bs u0 u0 r) X.2.2.2.2.2.1 X.2.2.2.1 0 0 (uA bs u0)) u0 21 [(0, .ref (bs + a0)), (2, .int x2), (3, .int x3), (4, .int x4), (5, .int x5), (6, .int x6)] []) (hex : ∀ (x5 : Int32) , G x5 → VV X D bs u0 rmX12_isSafe 9 0 0 (MQ X.2.2.2.2.2.2.1 (uQi D bs u0 u0 r) X.2.2.2.2.2.1 X.2.2.2.1 0 0 (uA bs u0)) u0 120 [(5, .int x5)] [])  {x5 : Int32} {x6 : Int32} {x7 : Int32}  {e : Int32} (h : fX12_isSafe_71 k a0 x2 x3 x4 x5 x6 x7 u0 = some e) (g : G e) : VV X D bs u0 rmX12_isSafe 9 0 0 (MQ X.2.2.2.2.2.2.1 (uQi D bs u0 u0 r) X.2.2.2.2.2.1 X.2.2.2.1 0 0 (uA bs u0)) u0 71 [(0, .ref (bs + a0)), (2, .int x2), (3, .int x3), (4, .int x4), (5, .int x5), (6, .int x6), (7, .int x7)] [] := by
  unfold fX12_isSafe_71 at h
  refine v_iconst C (0 : Int32) dX12_isSafe_71 (by decide) ?_
  refine v_sub [(0, .ref (bs + a0)), (2, .int x2), (3, .int x3), (4, .int x4), (5, .int x5), (6, .int x6), (7, .int x7)] [0, 1, 2, 3, 4, 5, 6] rfl ?_
  exact wX12_isSafe_72 C hin hk hex  h g
set_option maxRecDepth 100000 in
set_option maxHeartbeats 4000000 in
theorem wX12_isSafe_B21 {X : UX} {D : UD} {bs tw : Nat} {u0 : UH} {r : Int32} (C : uCx X D bs tw cX12_isSafe 9 RX12 (some .boolean)) (hin : X.2.2.2.2.2.2.2.1.name = "isSafe") {a0 : Nat} {x2 : Int32} {x3 : Int32} {x4 : Int32}  {G : Int32 → Prop} {k : Int32 → Int32 → Option Int32} (hk : ∀ (x5 : Int32) (x6 : Int32)  e, k x5 x6  = some e → G e → VV X D bs u0 rmX12_isSafe 9 0 0 (MQ X.2.2.2.2.2.2.1 (uQi D bs u0 u0 r) X.2.2.2.2.2.1 X.2.2.2.1 0 0 (uA bs u0)) u0 21 [(0, .ref (bs + a0)), (2, .int x2), (3, .int x3), (4, .int x4), (5, .int x5), (6, .int x6)] []) (hex : ∀ (x5 : Int32) , G x5 → VV X D bs u0 rmX12_isSafe 9 0 0 (MQ X.2.2.2.2.2.2.1 (uQi D bs u0 u0 r) X.2.2.2.2.2.1 X.2.2.2.1 0 0 (uA bs u0)) u0 120 [(5, .int x5)] [])  : ∀ (x5 : Int32) (x6 : Int32)  e, fX12_isSafe_B21 a0 x2 x3 x4 u0 k x5 x6  = some e → G e → VV X D bs u0 rmX12_isSafe 9 0 0 (MQ X.2.2.2.2.2.2.1 (uQi D bs u0 u0 r) X.2.2.2.2.2.1 X.2.2.2.1 0 0 (uA bs u0)) u0 21 [(0, .ref (bs + a0)), (2, .int x2), (3, .int x3), (4, .int x4), (5, .int x5), (6, .int x6)] [] := by
  intro x5 x6  e h g
  unfold fX12_isSafe_B21 at h
  refine v_iload C 5 dX12_isSafe_21 rfl ?_
  refine v_iconst C (4 : Int32) dX12_isSafe_23 (by decide) ?_
  refine v_icmpge C 120 dX12_isSafe_24 (by decide) h (fun _ h => ?_) (fun _ h => ?_)
  · refine v_sub [(5, .int x5)] [4] rfl ?_
    exact hex x5 ((Option.some.inj h).symm ▸ g)
  · refine v_iload C 3 dX12_isSafe_27 rfl ?_
    refine v_iflt C 120 dX12_isSafe_29 (by decide) h (fun _ h => ?_) (fun _ h => ?_)
    · refine v_sub [(5, .int x5)] [4] rfl ?_
      exact hex x5 ((Option.some.inj h).symm ▸ g)
    · refine v_aload_n C 0 dX12_isSafe_32 rfl rfl ?_
      refine v_getR C fdX12_7 dX12_isSafe_33 h (fun b3 h => ?_)
      refine v_iconst C (4 : Int32) dX12_isSafe_36 (by decide) ?_
      refine v_iload_n C 2 dX12_isSafe_37 rfl rfl ?_
      refine v_imul C dX12_isSafe_38 ?_
      refine v_iload C 5 dX12_isSafe_39 rfl ?_
      refine v_iadd C dX12_isSafe_41 ?_
      refine v_ldI C dX12_isSafe_42 h (fun y4 h => ?_)
      refine v_istore C [(7, .int y4), (0, .ref (bs + a0)), (2, .int x2), (3, .int x3), (4, .int x4), (5, .int x5), (6, .int x6)] dX12_isSafe_43 (by decide) rfl ?_
      refine v_aload_n C 1 dX12_isSafe_45 rfl rfl ?_
      refine v_iload_n C 3 dX12_isSafe_46 rfl rfl ?_
      refine v_iload C 4 dX12_isSafe_47 rfl ?_
      refine v_iconst C (3 : Int32) dX12_isSafe_49 (by decide) ?_
      obtain ⟨y5, h1, h⟩ := ob_some h
      obtain ⟨hkd, h1⟩ := kd_some h1
      refine v_goi (rn_V C gcX12_114 (RX12, TX12, 33) rfl rfl (by decide) hkd (mX12_of h1) ⟨rfl, rfl⟩ rfl ⟨Nat.le_of_ble_eq_true rfl, Nat.le_of_ble_eq_true rfl⟩ (rest := []) rfl (Nat.le_of_ble_eq_true rfl) ⟨Nat.le_of_ble_eq_true rfl, Nat.le_of_ble_eq_true rfl⟩ dX12_isSafe_50) ?_
      refine v_iload C 6 dX12_isSafe_53 rfl ?_
      refine v_ishr C dX12_isSafe_55 ?_
      refine v_iconst C (1 : Int32) dX12_isSafe_56 (by decide) ?_
      refine v_iand C dX12_isSafe_57 ?_
      refine v_iconst C (1 : Int32) dX12_isSafe_58 (by decide) ?_
      refine v_icmpne C 71 dX12_isSafe_59 (by decide) h (fun _ h => ?_) (fun _ h => ?_)
      · refine v_sub [(0, .ref (bs + a0)), (2, .int x2), (3, .int x3), (4, .int x4), (5, .int x5), (6, .int x6), (7, .int y4)] [1, 2, 3, 4, 5, 6, 0] rfl ?_
        exact wX12_isSafe_71 C hin hk hex  h g
      · refine v_iload C 0 dX12_isSafe_62 rfl ?_
        refine v_iflt C 71 dX12_isSafe_64 (by decide) h (fun _ h => ?_) (fun _ h => ?_)
        · refine v_sub [(0, .ref (bs + a0)), (2, .int x2), (3, .int x3), (4, .int x4), (5, .int x5), (6, .int x6), (7, .int y4)] [1, 2, 3, 4, 5, 6, 0] rfl ?_
          exact wX12_isSafe_71 C hin hk hex  h g
        · refine v_iconst C (1 : Int32) dX12_isSafe_67 (by decide) ?_
          refine v_goto C 72 dX12_isSafe_68 (by decide) ?_
          refine v_sub [(0, .ref (bs + a0)), (2, .int x2), (3, .int x3), (4, .int x4), (5, .int x5), (6, .int x6), (7, .int y4)] [1, 2, 3, 4, 5, 6, 0] rfl ?_
          exact wX12_isSafe_72 C hin hk hex  h g
set_option maxRecDepth 100000 in
set_option maxHeartbeats 4000000 in
theorem mX12_isSafe {l : Launch} {D : UD} {bs : Nat} {a0 : Nat} {x1 : Int32} {x2 : Int32} {u0 : UH} {r : Int32} (h : fX12_isSafe a0 x1 x2 u0 = some r) : Met l yX12_isSafe (wz yX12_isSafe cX12_isSafe 9 (some .boolean)) rmX12_isSafe (va_Pc [.ref (bs + a0), .int x1, .int x2] (uIn D bs u0)) (uQi D bs u0 u0 r) 0 0 (uA bs u0) := by
  refine uMet (by decide) (Nat.le_of_ble_eq_true rfl) ?_
  intro X tw hX C hin
  have C : uCx X D bs tw cX12_isSafe 9 RX12 (some .boolean) := C
  have hin : X.2.2.2.2.2.2.2.1.name = "isSafe" := hin
  refine v_L [(0, .ref (bs + a0)), (1, .int x1), (2, .int x2)] rfl ?_
  unfold fX12_isSafe at h
  refine v_iload_n C 1 dX12_isSafe_0 rfl rfl ?_
  refine v_iconst C (4 : Int32) dX12_isSafe_1 (by decide) ?_
  refine v_idiv C dX12_isSafe_2 (by decide) ?_
  refine v_lti h (fun y1 h => ?_)
  refine v_istore_n C [(3, .int y1), (0, .ref (bs + a0)), (1, .int x1), (2, .int x2)] dX12_isSafe_3 rfl (by decide) rfl ?_
  refine v_aload_n C 1 dX12_isSafe_4 rfl rfl ?_
  refine v_iload_n C 0 dX12_isSafe_5 rfl rfl ?_
  refine v_iload_n C 2 dX12_isSafe_6 rfl rfl ?_
  refine v_iconst C (4 : Int32) dX12_isSafe_7 (by decide) ?_
  refine v_irem C dX12_isSafe_8 (by decide) ?_
  refine v_iload_n C 3 dX12_isSafe_9 rfl rfl ?_
  obtain ⟨y2, h1, h⟩ := ob_some h
  obtain ⟨hkd, h1⟩ := kd_some h1
  refine v_goi (rn_V C gcX12_150 (RX12, TX12, 33) rfl rfl (by decide) hkd (mX12_handler h1) ⟨rfl, rfl⟩ rfl ⟨Nat.le_of_ble_eq_true rfl, Nat.le_of_ble_eq_true rfl⟩ (rest := []) rfl (Nat.le_of_ble_eq_true rfl) ⟨Nat.le_of_ble_eq_true rfl, Nat.le_of_ble_eq_true rfl⟩ dX12_isSafe_10) ?_
  refine v_istore C [(4, .int y2), (3, .int y1), (0, .ref (bs + a0)), (1, .int x1), (2, .int x2)] dX12_isSafe_13 (by decide) rfl ?_
  refine v_iconst C (1 : Int32) dX12_isSafe_15 (by decide) ?_
  refine v_istore C [(5, .int (1 : Int32)), (4, .int y2), (3, .int y1), (0, .ref (bs + a0)), (1, .int x1), (2, .int x2)] dX12_isSafe_16 (by decide) rfl ?_
  refine v_iconst C (0 : Int32) dX12_isSafe_18 (by decide) ?_
  refine v_istore C [(6, .int (0 : Int32)), (5, .int (1 : Int32)), (4, .int y2), (3, .int y1), (0, .ref (bs + a0)), (1, .int x1), (2, .int x2)] dX12_isSafe_19 (by decide) rfl ?_
  refine v_sub [(0, .ref (bs + a0)), (2, .int x2), (3, .int y1), (4, .int y2), (5, .int (1 : Int32)), (6, .int (0 : Int32))] [4, 6, 3, 2, 1, 0] rfl ?_
  refine it2_O (V := fun x5 x6 => VV X D bs u0 rmX12_isSafe 9 0 0 (MQ X.2.2.2.2.2.2.1 (uQi D bs u0 u0 r) X.2.2.2.2.2.1 X.2.2.2.1 0 0 (uA bs u0)) u0 21 [(0, .ref (bs + a0)), (2, .int x2), (3, .int y1), (4, .int y2), (5, .int x5), (6, .int x6)] []) h (fun k_ hk_ => wX12_isSafe_B21 C hin hk_ ?_ )
  intro z10 h
  try dsimp only [Sum.elim_inl] at h
  refine v_iload C 0 dX12_isSafe_120 rfl ?_
  obtain ⟨hz, h⟩ := bz_some h
  exact v_zret C dX12_isSafe_122 rfl (Option.some.inj h) (nz hz)
set_option maxRecDepth 100000 in
set_option maxHeartbeats 4000000 in
theorem wX12_loops_B2 {X : UX} {D : UD} {bs tw : Nat} {u0 : UH} {r : Int64} {v : UH} (C : uCx X D bs tw cX12_loops 4 RX12 (some .long)) (hin : X.2.2.2.2.2.2.2.1.name = "loops") {a0 : Nat}  {G : UH → Prop} {k : Int32 → UH → Option UH} (hk : ∀ (x1 : Int32) (u' : UH) e, k x1 u' = some e → G e → VV X D bs u0 rmX12_loops 4 0 0 (MQ X.2.2.2.2.2.2.1 (uQl D bs u0 v r) X.2.2.2.2.2.1 X.2.2.2.1 0 0 (uA bs u0)) u' 2 [(0, .ref (bs + a0)), (1, .int x1)] []) (hex : ∀  (u' : UH), G u' → VV X D bs u0 rmX12_loops 4 0 0 (MQ X.2.2.2.2.2.2.1 (uQl D bs u0 v r) X.2.2.2.2.2.1 X.2.2.2.1 0 0 (uA bs u0)) u' 21 [(0, .ref (bs + a0))] [])  : ∀ (x1 : Int32) (u : UH) e, fX12_loops_B2 a0  k x1 u = some e → G e → VV X D bs u0 rmX12_loops 4 0 0 (MQ X.2.2.2.2.2.2.1 (uQl D bs u0 v r) X.2.2.2.2.2.1 X.2.2.2.1 0 0 (uA bs u0)) u 2 [(0, .ref (bs + a0)), (1, .int x1)] [] := by
  intro x1 u e h g
  unfold fX12_loops_B2 at h
  refine v_iload_n C 1 dX12_loops_2 rfl rfl ?_
  refine v_bipush C (24 : Int32) dX12_loops_3 (by decide) ?_
  refine v_icmpge C 21 dX12_loops_5 (by decide) h (fun _ h => ?_) (fun _ h => ?_)
  · refine v_sub [(0, .ref (bs + a0))] [0] rfl ?_
    exact hex u ((Option.some.inj h).symm ▸ g)
  · refine v_aload_n C 0 dX12_loops_8 rfl rfl ?_
    refine v_getR C fdX12_38 dX12_loops_9 h (fun b1 h => ?_)
    refine v_iload_n C 1 dX12_loops_12 rfl rfl ?_
    refine v_lconst C (0 : Int64) dX12_loops_13 (by decide) ?_
    refine v_stJ C dX12_loops_14 h (fun u2 h => ?_)
    refine v_iinc C 1 (x1 + (1 : Int32)) [(1, .int (x1 + (1 : Int32))), (0, .ref (bs + a0))] dX12_loops_15 rfl rfl (by decide) rfl ?_
    refine v_goto C 2 dX12_loops_18 (by decide) ?_
    refine v_sub [(0, .ref (bs + a0)), (1, .int (x1 + (1 : Int32)))] [1, 0] rfl ?_
    exact hk (x1 + (1 : Int32)) u2 _ h g
set_option maxRecDepth 100000 in
set_option maxHeartbeats 4000000 in
theorem wX12_loops_B39 {X : UX} {D : UD} {bs tw : Nat} {u0 : UH} {r : Int64} {v : UH} (C : uCx X D bs tw cX12_loops 4 RX12 (some .long)) (hin : X.2.2.2.2.2.2.2.1.name = "loops") {a0 : Nat} {x2 : Int32}  {G : (Int32 × UH) → Prop} {k : Int32 → Int32 → UH → Option (Int32 × UH)} (hk : ∀ (x1 : Int32) (x3 : Int32) (u' : UH) e, k x1 x3 u' = some e → G e → VV X D bs u0 rmX12_loops 4 0 0 (MQ X.2.2.2.2.2.2.1 (uQl D bs u0 v r) X.2.2.2.2.2.1 X.2.2.2.1 0 0 (uA bs u0)) u' 39 [(0, .ref (bs + a0)), (1, .int x1), (2, .int x2), (3, .int x3)] []) (hex : ∀ (x1 : Int32) (u' : UH), G (x1, u') → VV X D bs u0 rmX12_loops 4 0 0 (MQ X.2.2.2.2.2.2.1 (uQl D bs u0 v r) X.2.2.2.2.2.1 X.2.2.2.1 0 0 (uA bs u0)) u' 91 [(0, .ref (bs + a0)), (1, .int x1), (2, .int x2)] [])  : ∀ (x1 : Int32) (x3 : Int32) (u : UH) e, fX12_loops_B39 a0 x2  k x1 x3 u = some e → G e → VV X D bs u0 rmX12_loops 4 0 0 (MQ X.2.2.2.2.2.2.1 (uQl D bs u0 v r) X.2.2.2.2.2.1 X.2.2.2.1 0 0 (uA bs u0)) u 39 [(0, .ref (bs + a0)), (1, .int x1), (2, .int x2), (3, .int x3)] [] := by
  intro x1 x3 u e h g
  unfold fX12_loops_B39 at h
  refine v_iload_n C 3 dX12_loops_39 rfl rfl ?_
  refine v_aload_n C 0 dX12_loops_40 rfl rfl ?_
  obtain ⟨y5, h1, h⟩ := ob_some h
  obtain ⟨hkd, h1⟩ := kd_some h1
  refine v_goi (rn_V C gcX12_98 (RX12, TX12, 33) rfl rfl (by decide) hkd (mX12_headers h1) ⟨rfl, rfl⟩ rfl ⟨Nat.le_of_ble_eq_true rfl, Nat.le_of_ble_eq_true rfl⟩ (rest := [.int x3]) rfl (Nat.le_of_ble_eq_true rfl) ⟨Nat.le_of_ble_eq_true rfl, Nat.le_of_ble_eq_true rfl⟩ dX12_loops_41) ?_
  refine v_icmpge C 91 dX12_loops_44 (by decide) h (fun _ h => ?_) (fun _ h => ?_)
  · refine v_sub [(0, .ref (bs + a0)), (1, .int x1), (2, .int x2)] [0, 1, 2] rfl ?_
    exact hex x1 u ((Option.some.inj h).symm ▸ g)
  · refine v_aload_n C 0 dX12_loops_47 rfl rfl ?_
    refine v_getR C fdX12_38 dX12_loops_48 h (fun b6 h => ?_)
    refine v_iload_n C 2 dX12_loops_51 rfl rfl ?_
    refine v_ldJ C dX12_loops_52 h (fun y7 h => ?_)
    refine v_iload_n C 3 dX12_loops_53 rfl rfl ?_
    refine v_lshr C dX12_loops_54 ?_
    refine v_lconst C (1 : Int64) dX12_loops_55 (by decide) ?_
    refine v_land C dX12_loops_56 ?_
    refine v_lconst C (0 : Int64) dX12_loops_57 (by decide) ?_
    refine v_lcmpne C 85 dX12_loops_58 dX12_loops_59 (by decide) h (fun _ h => ?_) (fun _ h => ?_)
    · refine v_iinc C 3 (x3 + (1 : Int32)) [(3, .int (x3 + (1 : Int32))), (0, .ref (bs + a0)), (1, .int x1), (2, .int x2)] dX12_loops_85 rfl rfl (by decide) rfl ?_
      refine v_goto C 39 dX12_loops_88 (by decide) ?_
      refine v_sub [(0, .ref (bs + a0)), (1, .int x1), (2, .int x2), (3, .int (x3 + (1 : Int32)))] [1, 2, 3, 0] rfl ?_
      exact hk x1 (x3 + (1 : Int32)) u _ h g
    · refine v_aload_n C 0 dX12_loops_62 rfl rfl ?_
      refine v_iload_n C 2 dX12_loops_63 rfl rfl ?_
      refine v_iload_n C 3 dX12_loops_64 rfl rfl ?_
      obtain ⟨y8, h1, h⟩ := ob_some h
      obtain ⟨hkd, h1⟩ := kd_some h1
      refine v_goi (rn_V C gcX12_202 (RX12, TX12, 33) rfl rfl (by decide) hkd (mX12_isSafe h1) ⟨rfl, rfl⟩ rfl ⟨Nat.le_of_ble_eq_true rfl, Nat.le_of_ble_eq_true rfl⟩ (rest := []) rfl (Nat.le_of_ble_eq_true rfl) ⟨Nat.le_of_ble_eq_true rfl, Nat.le_of_ble_eq_true rfl⟩ dX12_loops_65) ?_
      refine v_ifeq C 85 dX12_loops_68 (by decide) h (fun _ h => ?_) (fun _ h => ?_)
      · refine v_iinc C 3 (x3 + (1 : Int32)) [(3, .int (x3 + (1 : Int32))), (0, .ref (bs + a0)), (1, .int x1), (2, .int x2)] dX12_loops_85 rfl rfl (by decide) rfl ?_
        refine v_goto C 39 dX12_loops_88 (by decide) ?_
        refine v_sub [(0, .ref (bs + a0)), (1, .int x1), (2, .int x2), (3, .int (x3 + (1 : Int32)))] [1, 2, 3, 0] rfl ?_
        exact hk x1 (x3 + (1 : Int32)) u _ h g
      · refine v_aload_n C 0 dX12_loops_71 rfl rfl ?_
        refine v_getR C fdX12_38 dX12_loops_72 h (fun b9 h => ?_)
        refine v_iload_n C 2 dX12_loops_75 rfl rfl ?_
        refine v_dup2 C dX12_loops_76 rfl rfl ?_
        refine v_ldJ C dX12_loops_77 h (fun y10 h => ?_)
        refine v_lconst C (1 : Int64) dX12_loops_78 (by decide) ?_
        refine v_iload_n C 3 dX12_loops_79 rfl rfl ?_
        refine v_lshl C dX12_loops_80 ?_
        refine v_lor C dX12_loops_81 ?_
        refine v_stJ C dX12_loops_82 h (fun u11 h => ?_)
        refine v_iconst C (1 : Int32) dX12_loops_83 (by decide) ?_
        refine v_istore_n C [(1, .int (1 : Int32)), (0, .ref (bs + a0)), (2, .int x2), (3, .int x3)] dX12_loops_84 rfl (by decide) rfl ?_
        refine v_iinc C 3 (x3 + (1 : Int32)) [(3, .int (x3 + (1 : Int32))), (1, .int (1 : Int32)), (0, .ref (bs + a0)), (2, .int x2)] dX12_loops_85 rfl rfl (by decide) rfl ?_
        refine v_goto C 39 dX12_loops_88 (by decide) ?_
        refine v_sub [(0, .ref (bs + a0)), (1, .int (1 : Int32)), (2, .int x2), (3, .int (x3 + (1 : Int32)))] [2, 1, 3, 0] rfl ?_
        exact hk (1 : Int32) (x3 + (1 : Int32)) u11 _ h g
set_option maxRecDepth 100000 in
set_option maxHeartbeats 4000000 in
theorem wX12_loops_B31 {X : UX} {D : UD} {bs tw : Nat} {u0 : UH} {r : Int64} {v : UH} (C : uCx X D bs tw cX12_loops 4 RX12 (some .long)) (hin : X.2.2.2.2.2.2.2.1.name = "loops") {a0 : Nat}  {G : (Int32 × UH) → Prop} {k : Int32 → Int32 → UH → Option (Int32 × UH)} (hk : ∀ (x1 : Int32) (x2 : Int32) (u' : UH) e, k x1 x2 u' = some e → G e → VV X D bs u0 rmX12_loops 4 0 0 (MQ X.2.2.2.2.2.2.1 (uQl D bs u0 v r) X.2.2.2.2.2.1 X.2.2.2.1 0 0 (uA bs u0)) u' 31 [(0, .ref (bs + a0)), (1, .int x1), (2, .int x2)] []) (hex : ∀ (x1 : Int32) (u' : UH), G (x1, u') → VV X D bs u0 rmX12_loops 4 0 0 (MQ X.2.2.2.2.2.2.1 (uQl D bs u0 v r) X.2.2.2.2.2.1 X.2.2.2.1 0 0 (uA bs u0)) u' 97 [(0, .ref (bs + a0)), (1, .int x1)] [])  : ∀ (x1 : Int32) (x2 : Int32) (u : UH) e, fX12_loops_B31 a0  k x1 x2 u = some e → G e → VV X D bs u0 rmX12_loops 4 0 0 (MQ X.2.2.2.2.2.2.1 (uQl D bs u0 v r) X.2.2.2.2.2.1 X.2.2.2.1 0 0 (uA bs u0)) u 31 [(0, .ref (bs + a0)), (1, .int x1), (2, .int x2)] [] := by
  intro x1 x2 u e h g
  unfold fX12_loops_B31 at h
  refine v_iload_n C 2 dX12_loops_31 rfl rfl ?_
  refine v_bipush C (24 : Int32) dX12_loops_32 (by decide) ?_
  refine v_icmpge C 97 dX12_loops_34 (by decide) h (fun _ h => ?_) (fun _ h => ?_)
  · refine v_sub [(0, .ref (bs + a0)), (1, .int x1)] [0, 1] rfl ?_
    exact hex x1 u ((Option.some.inj h).symm ▸ g)
  · refine v_iconst C (0 : Int32) dX12_loops_37 (by decide) ?_
    refine v_istore_n C [(3, .int (0 : Int32)), (0, .ref (bs + a0)), (1, .int x1), (2, .int x2)] dX12_loops_38 rfl (by decide) rfl ?_
    refine v_sub [(0, .ref (bs + a0)), (1, .int x1), (2, .int x2), (3, .int (0 : Int32))] [1, 2, 3, 0] rfl ?_
    refine it3_O (V := fun x1 x3 u' => VV X D bs u0 rmX12_loops 4 0 0 (MQ X.2.2.2.2.2.2.1 (uQl D bs u0 v r) X.2.2.2.2.2.1 X.2.2.2.1 0 0 (uA bs u0)) u' 39 [(0, .ref (bs + a0)), (1, .int x1), (2, .int x2), (3, .int x3)] []) h (fun k_ hk_ => wX12_loops_B39 C hin hk_ ?_ )
    intro z13 z14 h
    try dsimp only [Sum.elim_inl] at h
    refine v_iinc C 2 (x2 + (1 : Int32)) [(2, .int (x2 + (1 : Int32))), (0, .ref (bs + a0)), (1, .int z13)] dX12_loops_91 rfl rfl (by decide) rfl ?_
    refine v_goto C 31 dX12_loops_94 (by decide) ?_
    refine v_sub [(0, .ref (bs + a0)), (1, .int z13), (2, .int (x2 + (1 : Int32)))] [1, 2, 0] rfl ?_
    exact hk z13 (x2 + (1 : Int32)) z14 _ h g
set_option maxRecDepth 100000 in
set_option maxHeartbeats 4000000 in
theorem wX12_loops_B23 {X : UX} {D : UD} {bs tw : Nat} {u0 : UH} {r : Int64} {v : UH} (C : uCx X D bs tw cX12_loops 4 RX12 (some .long)) (hin : X.2.2.2.2.2.2.2.1.name = "loops") {a0 : Nat}  {G : UH → Prop} {k : Int32 → UH → Option UH} (hk : ∀ (x1 : Int32) (u' : UH) e, k x1 u' = some e → G e → VV X D bs u0 rmX12_loops 4 0 0 (MQ X.2.2.2.2.2.2.1 (uQl D bs u0 v r) X.2.2.2.2.2.1 X.2.2.2.1 0 0 (uA bs u0)) u' 23 [(0, .ref (bs + a0)), (1, .int x1)] []) (hex : ∀  (u' : UH), G u' → VV X D bs u0 rmX12_loops 4 0 0 (MQ X.2.2.2.2.2.2.1 (uQl D bs u0 v r) X.2.2.2.2.2.1 X.2.2.2.1 0 0 (uA bs u0)) u' 100 [(0, .ref (bs + a0))] [])  : ∀ (x1 : Int32) (u : UH) e, fX12_loops_B23 a0  k x1 u = some e → G e → VV X D bs u0 rmX12_loops 4 0 0 (MQ X.2.2.2.2.2.2.1 (uQl D bs u0 v r) X.2.2.2.2.2.1 X.2.2.2.1 0 0 (uA bs u0)) u 23 [(0, .ref (bs + a0)), (1, .int x1)] [] := by
  intro x1 u e h g
  unfold fX12_loops_B23 at h
  refine v_iload_n C 1 dX12_loops_23 rfl rfl ?_
  refine v_ifeq C 100 dX12_loops_24 (by decide) h (fun _ h => ?_) (fun _ h => ?_)
  · refine v_sub [(0, .ref (bs + a0))] [0] rfl ?_
    exact hex u ((Option.some.inj h).symm ▸ g)
  · refine v_iconst C (0 : Int32) dX12_loops_27 (by decide) ?_
    refine v_istore_n C [(1, .int (0 : Int32)), (0, .ref (bs + a0))] dX12_loops_28 rfl (by decide) rfl ?_
    refine v_iconst C (0 : Int32) dX12_loops_29 (by decide) ?_
    refine v_istore_n C [(2, .int (0 : Int32)), (1, .int (0 : Int32)), (0, .ref (bs + a0))] dX12_loops_30 rfl (by decide) rfl ?_
    refine v_sub [(0, .ref (bs + a0)), (1, .int (0 : Int32)), (2, .int (0 : Int32))] [2, 1, 0] rfl ?_
    refine it3_O (V := fun x1 x2 u' => VV X D bs u0 rmX12_loops 4 0 0 (MQ X.2.2.2.2.2.2.1 (uQl D bs u0 v r) X.2.2.2.2.2.1 X.2.2.2.1 0 0 (uA bs u0)) u' 31 [(0, .ref (bs + a0)), (1, .int x1), (2, .int x2)] []) h (fun k_ hk_ => wX12_loops_B31 C hin hk_ ?_ )
    intro z16 z17 h
    try dsimp only [Sum.elim_inl] at h
    refine v_goto C 23 dX12_loops_97 (by decide) ?_
    refine v_sub [(0, .ref (bs + a0)), (1, .int z16)] [0, 1] rfl ?_
    exact hk z16 z17 _ h g
set_option maxRecDepth 100000 in
set_option maxHeartbeats 4000000 in
theorem mX12_loops {l : Launch} {D : UD} {bs : Nat} {a0 : Nat} {u0 : UH} {r : Int64} {v : UH} (h : fX12_loops a0 u0 = some (r, v)) : Met l yX12_loops (wz yX12_loops cX12_loops 4 (some .long)) rmX12_loops (va_Pc [.ref (bs + a0)] (uIn D bs u0)) (uQl D bs u0 v r) 0 0 (uA bs u0) := by
  refine uMet (by decide) (Nat.le_of_ble_eq_true rfl) ?_
  intro X tw hX C hin
  have C : uCx X D bs tw cX12_loops 4 RX12 (some .long) := C
  have hin : X.2.2.2.2.2.2.2.1.name = "loops" := hin
  refine v_L [(0, .ref (bs + a0))] rfl ?_
  unfold fX12_loops at h
  refine v_iconst C (0 : Int32) dX12_loops_0 (by decide) ?_
  refine v_istore_n C [(1, .int (0 : Int32)), (0, .ref (bs + a0))] dX12_loops_1 rfl (by decide) rfl ?_
  refine v_sub [(0, .ref (bs + a0)), (1, .int (0 : Int32))] [1, 0] rfl ?_
  refine it2_O (V := fun x1 u' => VV X D bs u0 rmX12_loops 4 0 0 (MQ X.2.2.2.2.2.2.1 (uQl D bs u0 v r) X.2.2.2.2.2.1 X.2.2.2.1 0 0 (uA bs u0)) u' 2 [(0, .ref (bs + a0)), (1, .int x1)] []) h (fun k_ hk_ => wX12_loops_B2 C hin hk_ ?_ )
  intro z4 h
  try dsimp only [Sum.elim_inl] at h
  refine v_iconst C (1 : Int32) dX12_loops_21 (by decide) ?_
  refine v_istore_n C [(1, .int (1 : Int32)), (0, .ref (bs + a0))] dX12_loops_22 rfl (by decide) rfl ?_
  refine v_sub [(0, .ref (bs + a0)), (1, .int (1 : Int32))] [1, 0] rfl ?_
  refine it2_O (V := fun x1 u' => VV X D bs u0 rmX12_loops 4 0 0 (MQ X.2.2.2.2.2.2.1 (uQl D bs u0 v r) X.2.2.2.2.2.1 X.2.2.2.1 0 0 (uA bs u0)) u' 23 [(0, .ref (bs + a0)), (1, .int x1)] []) h (fun k_ hk_ => wX12_loops_B23 C hin hk_ ?_ )
  intro z6 h
  try dsimp only [Sum.elim_inl] at h
  refine v_aload_n C 0 dX12_loops_100 rfl rfl ?_
  obtain ⟨y7, h1, h⟩ := ob_some h
  obtain ⟨hkd, h1⟩ := kd_some h1
  refine v_gol (rn_V C gcX12_164 (RX12, TX12, 33) rfl rfl (by decide) hkd (mX12_injected h1) ⟨rfl, rfl⟩ rfl ⟨Nat.le_of_ble_eq_true rfl, Nat.le_of_ble_eq_true rfl⟩ (rest := []) rfl (Nat.le_of_ble_eq_true rfl) ⟨Nat.le_of_ble_eq_true rfl, Nat.le_of_ble_eq_true rfl⟩ dX12_loops_101) ?_
  refine v_aload_n C 0 dX12_loops_104 rfl rfl ?_
  refine v_getR C fdX12_38 dX12_loops_105 h (fun b8 h => ?_)
  refine v_aload_n C 0 dX12_loops_108 rfl rfl ?_
  refine v_getI C fdX12_79 dX12_loops_109 h (fun y9 h => ?_)
  refine v_ldJ C dX12_loops_112 h (fun y10 h => ?_)
  refine v_ldc2 C (-1 : Int64) tw1153 dX12_loops_113 ?_
  refine v_lxor C dX12_loops_116 ?_
  refine v_land C dX12_loops_117 ?_
  exact v_lret C dX12_loops_118 (Prod.mk.inj (Option.some.inj h)).2 (Prod.mk.inj (Option.some.inj h)).1
set_option maxRecDepth 100000 in
set_option maxHeartbeats 4000000 in
theorem mX12_isOn {l : Launch} {D : UD} {bs : Nat} {a0 : Nat} {x1 : Int32} {u0 : UH} {r : Int32} (h : fX12_isOn a0 x1 u0 = some r) : Met l yX12_isOn (wz yX12_isOn cX12_isOn 2 (some .boolean)) rmX12_isOn (va_Pc [.ref (bs + a0), .int x1] (uIn D bs u0)) (uQi D bs u0 u0 r) 0 0 (uA bs u0) := by
  refine uMet (by decide) (Nat.le_of_ble_eq_true rfl) ?_
  intro X tw hX C hin
  have C : uCx X D bs tw cX12_isOn 2 RX12 (some .boolean) := C
  have hin : X.2.2.2.2.2.2.2.1.name = "isOn" := hin
  refine v_L [(0, .ref (bs + a0)), (1, .int x1)] rfl ?_
  unfold fX12_isOn at h
  refine v_iload_n C 1 dX12_isOn_0 rfl rfl ?_
  refine v_bipush C (6 : Int32) dX12_isOn_1 (by decide) ?_
  refine v_irem C dX12_isOn_3 (by decide) ?_
  refine v_aload_n C 0 dX12_isOn_4 rfl rfl ?_
  refine v_iload_n C 1 dX12_isOn_5 rfl rfl ?_
  refine v_bipush C (6 : Int32) dX12_isOn_6 (by decide) ?_
  refine v_idiv C dX12_isOn_8 (by decide) ?_
  obtain ⟨y1, h1, h⟩ := ob_some h
  obtain ⟨hkd, h1⟩ := kd_some h1
  refine v_goi (rn_V C gcX12_110 (RX12, TX12, 33) rfl rfl (by decide) hkd (mX12_many h1) ⟨rfl, rfl⟩ rfl ⟨Nat.le_of_ble_eq_true rfl, Nat.le_of_ble_eq_true rfl⟩ (rest := [.int (jrem x1 (6 : Int32))]) rfl (Nat.le_of_ble_eq_true rfl) ⟨Nat.le_of_ble_eq_true rfl, Nat.le_of_ble_eq_true rfl⟩ dX12_isOn_9) ?_
  refine v_icmpge C 37 dX12_isOn_12 (by decide) h (fun _ h => ?_) (fun _ h => ?_)
  · refine v_iconst C (0 : Int32) dX12_isOn_37 (by decide) ?_
    exact v_zret C dX12_isOn_38 rfl (Option.some.inj h) rfl
  · refine v_aload_n C 0 dX12_isOn_15 rfl rfl ?_
    refine v_iload_n C 1 dX12_isOn_16 rfl rfl ?_
    refine v_bipush C (6 : Int32) dX12_isOn_17 (by decide) ?_
    refine v_idiv C dX12_isOn_19 (by decide) ?_
    refine v_iload_n C 1 dX12_isOn_20 rfl rfl ?_
    refine v_bipush C (6 : Int32) dX12_isOn_21 (by decide) ?_
    refine v_irem C dX12_isOn_23 (by decide) ?_
    refine v_bipush C (6 : Int32) dX12_isOn_24 (by decide) ?_
    obtain ⟨y2, h1, h⟩ := ob_some h
    obtain ⟨hkd, h1⟩ := kd_some h1
    refine v_goi (rn_V C gcX12_114 (RX12, TX12, 33) rfl rfl (by decide) hkd (mX12_of h1) ⟨rfl, rfl⟩ rfl ⟨Nat.le_of_ble_eq_true rfl, Nat.le_of_ble_eq_true rfl⟩ (rest := []) rfl (Nat.le_of_ble_eq_true rfl) ⟨Nat.le_of_ble_eq_true rfl, Nat.le_of_ble_eq_true rfl⟩ dX12_isOn_26) ?_
    refine v_iconst C (1 : Int32) dX12_isOn_29 (by decide) ?_
    refine v_icmpne C 37 dX12_isOn_30 (by decide) h (fun _ h => ?_) (fun _ h => ?_)
    · refine v_iconst C (0 : Int32) dX12_isOn_37 (by decide) ?_
      exact v_zret C dX12_isOn_38 rfl (Option.some.inj h) rfl
    · refine v_iconst C (1 : Int32) dX12_isOn_33 (by decide) ?_
      refine v_goto C 38 dX12_isOn_34 (by decide) ?_
      exact v_zret C dX12_isOn_38 rfl (Option.some.inj h) rfl
set_option maxRecDepth 100000 in
set_option maxHeartbeats 4000000 in
theorem mX12_turn {l : Launch} {D : UD} {bs : Nat} {a0 : Nat} {x1 : Int32} {x2 : Int32} {u0 : UH} {v : UH} (h : fX12_turn a0 x1 x2 u0 = some v) : Met l yX12_turn (wz yX12_turn cX12_turn 3 none) rmX12_turn (va_Pc [.ref (bs + a0), .int x1, .int x2] (uIn D bs u0)) (uQv D bs u0 v) 0 0 (uA bs u0) := by
  refine uMet (by decide) (Nat.le_of_ble_eq_true rfl) ?_
  intro X tw hX C hin
  have C : uCx X D bs tw cX12_turn 3 RX12 none := C
  have hin : X.2.2.2.2.2.2.2.1.name = "turn" := hin
  refine v_L [(0, .ref (bs + a0)), (1, .int x1), (2, .int x2)] rfl ?_
  unfold fX12_turn at h
  refine v_aload_n C 0 dX12_turn_0 rfl rfl ?_
  refine v_iload_n C 1 dX12_turn_1 rfl rfl ?_
  refine v_bipush C (6 : Int32) dX12_turn_2 (by decide) ?_
  refine v_idiv C dX12_turn_4 (by decide) ?_
  refine v_iload_n C 1 dX12_turn_5 rfl rfl ?_
  refine v_bipush C (6 : Int32) dX12_turn_6 (by decide) ?_
  refine v_irem C dX12_turn_8 (by decide) ?_
  refine v_bipush C (6 : Int32) dX12_turn_9 (by decide) ?_
  refine v_iload_n C 2 dX12_turn_11 rfl rfl ?_
  obtain ⟨u1, h1, h⟩ := ob_some h
  obtain ⟨hkd, h1⟩ := kd_some h1
  refine v_gov (rn_V C gcX12_118 (RX12, TX12, 33) rfl rfl (by decide) hkd (mX12_put h1) ⟨rfl, rfl⟩ rfl ⟨Nat.le_of_ble_eq_true rfl, Nat.le_of_ble_eq_true rfl⟩ (rest := []) rfl (Nat.le_of_ble_eq_true rfl) ⟨Nat.le_of_ble_eq_true rfl, Nat.le_of_ble_eq_true rfl⟩ dX12_turn_12) ?_
  exact v_vret C dX12_turn_15 (Option.some.inj h)
set_option maxRecDepth 100000 in
set_option maxHeartbeats 4000000 in
theorem mX12_isStopped {l : Launch} {D : UD} {bs : Nat} {a0 : Nat} {x1 : Int32} {u0 : UH} {r : Int32} {v : UH} (h : fX12_isStopped a0 x1 u0 = some (r, v)) : Met l yX12_isStopped (wz yX12_isStopped cX12_isStopped 2 (some .boolean)) rmX12_isStopped (va_Pc [.ref (bs + a0), .int x1] (uIn D bs u0)) (uQi D bs u0 v r) 0 0 (uA bs u0) := by
  refine uMet (by decide) (Nat.le_of_ble_eq_true rfl) ?_
  intro X tw hX C hin
  have C : uCx X D bs tw cX12_isStopped 2 RX12 (some .boolean) := C
  have hin : X.2.2.2.2.2.2.2.1.name = "isStopped" := hin
  refine v_L [(0, .ref (bs + a0)), (1, .int x1)] rfl ?_
  unfold fX12_isStopped at h
  refine v_aload_n C 0 dX12_isStopped_0 rfl rfl ?_
  obtain ⟨u1, h1, h⟩ := ob_some h
  obtain ⟨hkd, h1⟩ := kd_some h1
  refine v_gov (rn_V C gcX12_179 (RX12, TX12, 33) rfl rfl (by decide) hkd (mX12_spreadAll h1) ⟨rfl, rfl⟩ rfl ⟨Nat.le_of_ble_eq_true rfl, Nat.le_of_ble_eq_true rfl⟩ (rest := []) rfl (Nat.le_of_ble_eq_true rfl) ⟨Nat.le_of_ble_eq_true rfl, Nat.le_of_ble_eq_true rfl⟩ dX12_isStopped_1) ?_
  refine v_aload_n C 0 dX12_isStopped_4 rfl rfl ?_
  refine v_getR C fdX12_29 dX12_isStopped_5 h (fun b2 h => ?_)
  refine v_iload_n C 1 dX12_isStopped_8 rfl rfl ?_
  refine v_ldJ C dX12_isStopped_9 h (fun y3 h => ?_)
  refine v_lconst C (0 : Int64) dX12_isStopped_10 (by decide) ?_
  refine v_lcmpne C 19 dX12_isStopped_11 dX12_isStopped_12 (by decide) h (fun _ h => ?_) (fun _ h => ?_)
  · refine v_iconst C (0 : Int32) dX12_isStopped_19 (by decide) ?_
    exact v_zret C dX12_isStopped_20 (Prod.mk.inj (Option.some.inj h)).2 (Prod.mk.inj (Option.some.inj h)).1 rfl
  · refine v_iconst C (1 : Int32) dX12_isStopped_15 (by decide) ?_
    refine v_goto C 20 dX12_isStopped_16 (by decide) ?_
    exact v_zret C dX12_isStopped_20 (Prod.mk.inj (Option.some.inj h)).2 (Prod.mk.inj (Option.some.inj h)).1 rfl
set_option maxRecDepth 100000 in
set_option maxHeartbeats 4000000 in
theorem wX12_findCut_B2 {X : UX} {D : UD} {bs tw : Nat} {u0 : UH} {r : Int32} {v : UH} (C : uCx X D bs tw cX12_findCut 6 RX12 (some .boolean)) (hin : X.2.2.2.2.2.2.2.1.name = "findCut") {a0 : Nat} {x1 : Int32} {x2 : Int32}  {G : UH → Prop} {k : Int32 → UH → Option UH} (hk : ∀ (x3 : Int32) (u' : UH) e, k x3 u' = some e → G e → VV X D bs u0 rmX12_findCut 6 0 0 (MQ X.2.2.2.2.2.2.1 (uQi D bs u0 v r) X.2.2.2.2.2.1 X.2.2.2.1 0 0 (uA bs u0)) u' 2 [(0, .ref (bs + a0)), (1, .int x1), (2, .int x2), (3, .int x3)] []) (hex : ∀  (u' : UH), G u' → VV X D bs u0 rmX12_findCut 6 0 0 (MQ X.2.2.2.2.2.2.1 (uQi D bs u0 v r) X.2.2.2.2.2.1 X.2.2.2.1 0 0 (uA bs u0)) u' 20 [(0, .ref (bs + a0)), (1, .int x1), (2, .int x2)] [])  : ∀ (x3 : Int32) (u : UH) e, fX12_findCut_B2 a0 x2  k x3 u = some e → G e → VV X D bs u0 rmX12_findCut 6 0 0 (MQ X.2.2.2.2.2.2.1 (uQi D bs u0 v r) X.2.2.2.2.2.1 X.2.2.2.1 0 0 (uA bs u0)) u 2 [(0, .ref (bs + a0)), (1, .int x1), (2, .int x2), (3, .int x3)] [] := by
  intro x3 u e h g
  unfold fX12_findCut_B2 at h
  refine v_iload_n C 3 dX12_findCut_2 rfl rfl ?_
  refine v_iload_n C 2 dX12_findCut_3 rfl rfl ?_
  refine v_icmpge C 20 dX12_findCut_4 (by decide) h (fun _ h => ?_) (fun _ h => ?_)
  · refine v_sub [(0, .ref (bs + a0)), (1, .int x1), (2, .int x2)] [0, 1, 2] rfl ?_
    exact hex u ((Option.some.inj h).symm ▸ g)
  · refine v_aload_n C 0 dX12_findCut_7 rfl rfl ?_
    refine v_getR C fdX12_41 dX12_findCut_8 h (fun b1 h => ?_)
    refine v_iload_n C 3 dX12_findCut_11 rfl rfl ?_
    refine v_iconst C (-1 : Int32) dX12_findCut_12 (by decide) ?_
    refine v_stI C dX12_findCut_13 h (fun u2 h => ?_)
    refine v_iinc C 3 (x3 + (1 : Int32)) [(3, .int (x3 + (1 : Int32))), (0, .ref (bs + a0)), (1, .int x1), (2, .int x2)] dX12_findCut_14 rfl rfl (by decide) rfl ?_
    refine v_goto C 2 dX12_findCut_17 (by decide) ?_
    refine v_sub [(0, .ref (bs + a0)), (1, .int x1), (2, .int x2), (3, .int (x3 + (1 : Int32)))] [1, 2, 3, 0] rfl ?_
    exact hk (x3 + (1 : Int32)) u2 _ h g
set_option maxRecDepth 100000 in
set_option maxHeartbeats 4000000 in
theorem wX12_findCut_B110 {X : UX} {D : UD} {bs tw : Nat} {u0 : UH} {r : Int32} {v : UH} (C : uCx X D bs tw cX12_findCut 6 RX12 (some .boolean)) (hin : X.2.2.2.2.2.2.2.1.name = "findCut") {a0 : Nat} {x1 : Int32} {x2 : Int32} {x3 : Int32} {x4 : Int32}  {G : UH → Prop} {k : UH → Option UH} (hk : ∀  (u' : UH) e, k  u' = some e → G e → VV X D bs u0 rmX12_findCut 6 0 0 (MQ X.2.2.2.2.2.2.1 (uQi D bs u0 v r) X.2.2.2.2.2.1 X.2.2.2.1 0 0 (uA bs u0)) u' 110 [(0, .ref (bs + a0)), (1, .int x1), (2, .int x2), (3, .int x3), (4, .int x4)] []) (hex : ∀  (u' : UH), G u' → VV X D bs u0 rmX12_findCut 6 0 0 (MQ X.2.2.2.2.2.2.1 (uQi D bs u0 v r) X.2.2.2.2.2.1 X.2.2.2.1 0 0 (uA bs u0)) u' 147 [(0, .ref (bs + a0)), (1, .int x1), (2, .int x2), (3, .int x3), (4, .int x4)] [])  : ∀  (u : UH) e, fX12_findCut_B110 a0 x3  k  u = some e → G e → VV X D bs u0 rmX12_findCut 6 0 0 (MQ X.2.2.2.2.2.2.1 (uQi D bs u0 v r) X.2.2.2.2.2.1 X.2.2.2.1 0 0 (uA bs u0)) u 110 [(0, .ref (bs + a0)), (1, .int x1), (2, .int x2), (3, .int x3), (4, .int x4)] [] := by
  intro  u e h g
  unfold fX12_findCut_B110 at h
  refine v_aload_n C 0 dX12_findCut_110 rfl rfl ?_
  refine v_getR C fdX12_41 dX12_findCut_111 h (fun b14 h => ?_)
  refine v_iload_n C 3 dX12_findCut_114 rfl rfl ?_
  refine v_ldI C dX12_findCut_115 h (fun y15 h => ?_)
  refine v_bipush C (36 : Int32) dX12_findCut_116 (by decide) ?_
  refine v_icmpge C 147 dX12_findCut_118 (by decide) h (fun _ h => ?_) (fun _ h => ?_)
  · refine v_sub [(0, .ref (bs + a0)), (1, .int x1), (2, .int x2), (3, .int x3), (4, .int x4)] [0, 1, 2, 3, 4] rfl ?_
    exact hex u ((Option.some.inj h).symm ▸ g)
  · refine v_aload_n C 0 dX12_findCut_121 rfl rfl ?_
    refine v_aload_n C 0 dX12_findCut_122 rfl rfl ?_
    refine v_getR C fdX12_41 dX12_findCut_123 h (fun b16 h => ?_)
    refine v_iload_n C 3 dX12_findCut_126 rfl rfl ?_
    refine v_ldI C dX12_findCut_127 h (fun y17 h => ?_)
    obtain ⟨y18, h1, h⟩ := ob_some h
    obtain ⟨hkd, h1⟩ := kd_some h1
    refine v_goi (rn_V C gcX12_211 (RX12, TX12, 33) rfl rfl (by decide) hkd (mX12_isOn h1) ⟨rfl, rfl⟩ rfl ⟨Nat.le_of_ble_eq_true rfl, Nat.le_of_ble_eq_true rfl⟩ (rest := []) rfl (Nat.le_of_ble_eq_true rfl) ⟨Nat.le_of_ble_eq_true rfl, Nat.le_of_ble_eq_true rfl⟩ dX12_findCut_128) ?_
    refine v_ifne C 147 dX12_findCut_131 (by decide) h (fun _ h => ?_) (fun _ h => ?_)
    · refine v_sub [(0, .ref (bs + a0)), (1, .int x1), (2, .int x2), (3, .int x3), (4, .int x4)] [0, 1, 2, 3, 4] rfl ?_
      exact hex u ((Option.some.inj h).symm ▸ g)
    · refine v_aload_n C 0 dX12_findCut_134 rfl rfl ?_
      refine v_getR C fdX12_41 dX12_findCut_135 h (fun b19 h => ?_)
      refine v_iload_n C 3 dX12_findCut_138 rfl rfl ?_
      refine v_dup2 C dX12_findCut_139 rfl rfl ?_
      refine v_ldI C dX12_findCut_140 h (fun y20 h => ?_)
      refine v_iconst C (1 : Int32) dX12_findCut_141 (by decide) ?_
      refine v_iadd C dX12_findCut_142 ?_
      refine v_stI C dX12_findCut_143 h (fun u21 h => ?_)
      refine v_goto C 110 dX12_findCut_144 (by decide) ?_
      refine v_sub [(0, .ref (bs + a0)), (1, .int x1), (2, .int x2), (3, .int x3), (4, .int x4)] [0, 1, 2, 3, 4] rfl ?_
      exact hk u21 _ h g
set_option maxRecDepth 100000 in
set_option maxHeartbeats 4000000 in
theorem wX12_findCut_202 {X : UX} {D : UD} {bs tw : Nat} {u0 : UH} {r : Int32} {v : UH} (C : uCx X D bs tw cX12_findCut 6 RX12 (some .boolean)) (hin : X.2.2.2.2.2.2.2.1.name = "findCut") {a0 : Nat} {x1 : Int32} {x2 : Int32}  {G : (Int32 × UH) → Prop} {k : Int32 → Int32 → UH → Option (Int32 × UH)} (hk : ∀ (x3 : Int32) (x4 : Int32) (u' : UH) e, k x3 x4 u' = some e → G e → VV X D bs u0 rmX12_findCut 6 0 0 (MQ X.2.2.2.2.2.2.1 (uQi D bs u0 v r) X.2.2.2.2.2.1 X.2.2.2.1 0 0 (uA bs u0)) u' 41 [(0, .ref (bs + a0)), (1, .int x1), (2, .int x2), (3, .int x3), (4, .int x4)] []) (hex : ∀ (x4 : Int32) (u' : UH), G (x4, u') → VV X D bs u0 rmX12_findCut 6 0 0 (MQ X.2.2.2.2.2.2.1 (uQi D bs u0 v r) X.2.2.2.2.2.1 X.2.2.2.1 0 0 (uA bs u0)) u' 222 [(0, .ref (bs + a0)), (2, .int x2), (4, .int x4)] [])  {x3 : Int32} {s0 : Int32} {u : UH} {e : (Int32 × UH)} (h : fX12_findCut_202 k a0 x1 x2 x3 s0 u = some e) (g : G e) : VV X D bs u0 rmX12_findCut 6 0 0 (MQ X.2.2.2.2.2.2.1 (uQi D bs u0 v r) X.2.2.2.2.2.1 X.2.2.2.1 0 0 (uA bs u0)) u 202 [(0, .ref (bs + a0)), (1, .int x1), (2, .int x2), (3, .int x3)] [.int s0] := by
  unfold fX12_findCut_202 at h
  refine v_istore C [(4, .int s0), (0, .ref (bs + a0)), (1, .int x1), (2, .int x2), (3, .int x3)] dX12_findCut_202 (by decide) rfl ?_
  refine v_iload_n C 4 dX12_findCut_204 rfl rfl ?_
  refine v_iload_n C 4 dX12_findCut_205 rfl rfl ?_
  refine v_iload_n C 3 dX12_findCut_206 rfl rfl ?_
  refine v_iconst C (1 : Int32) dX12_findCut_207 (by decide) ?_
  refine v_isub C dX12_findCut_208 ?_
  refine v_icmpge C 216 dX12_findCut_209 (by decide) h (fun _ h => ?_) (fun _ h => ?_)
  · refine v_iconst C (0 : Int32) dX12_findCut_216 (by decide) ?_
    refine v_iadd C dX12_findCut_217 ?_
    refine v_lti h (fun y29 h => ?_)
    refine v_istore_n C [(3, .int y29), (4, .int s0), (0, .ref (bs + a0)), (1, .int x1), (2, .int x2)] dX12_findCut_218 rfl (by decide) rfl ?_
    refine v_goto C 41 dX12_findCut_219 (by decide) ?_
    refine v_sub [(0, .ref (bs + a0)), (1, .int x1), (2, .int x2), (3, .int y29), (4, .int s0)] [2, 3, 4, 0, 1] rfl ?_
    exact hk y29 s0 u _ h g
  · refine v_iconst C (1 : Int32) dX12_findCut_212 (by decide) ?_
    refine v_goto C 217 dX12_findCut_213 (by decide) ?_
    refine v_iadd C dX12_findCut_217 ?_
    refine v_lti h (fun y30 h => ?_)
    refine v_istore_n C [(3, .int y30), (4, .int s0), (0, .ref (bs + a0)), (1, .int x1), (2, .int x2)] dX12_findCut_218 rfl (by decide) rfl ?_
    refine v_goto C 41 dX12_findCut_219 (by decide) ?_
    refine v_sub [(0, .ref (bs + a0)), (1, .int x1), (2, .int x2), (3, .int y30), (4, .int s0)] [2, 3, 4, 0, 1] rfl ?_
    exact hk y30 s0 u _ h g
set_option maxRecDepth 100000 in
set_option maxHeartbeats 4000000 in
theorem wX12_findCut_201 {X : UX} {D : UD} {bs tw : Nat} {u0 : UH} {r : Int32} {v : UH} (C : uCx X D bs tw cX12_findCut 6 RX12 (some .boolean)) (hin : X.2.2.2.2.2.2.2.1.name = "findCut") {a0 : Nat} {x1 : Int32} {x2 : Int32}  {G : (Int32 × UH) → Prop} {k : Int32 → Int32 → UH → Option (Int32 × UH)} (hk : ∀ (x3 : Int32) (x4 : Int32) (u' : UH) e, k x3 x4 u' = some e → G e → VV X D bs u0 rmX12_findCut 6 0 0 (MQ X.2.2.2.2.2.2.1 (uQi D bs u0 v r) X.2.2.2.2.2.1 X.2.2.2.1 0 0 (uA bs u0)) u' 41 [(0, .ref (bs + a0)), (1, .int x1), (2, .int x2), (3, .int x3), (4, .int x4)] []) (hex : ∀ (x4 : Int32) (u' : UH), G (x4, u') → VV X D bs u0 rmX12_findCut 6 0 0 (MQ X.2.2.2.2.2.2.1 (uQi D bs u0 v r) X.2.2.2.2.2.1 X.2.2.2.1 0 0 (uA bs u0)) u' 222 [(0, .ref (bs + a0)), (2, .int x2), (4, .int x4)] [])  {x3 : Int32} {u : UH} {e : (Int32 × UH)} (h : fX12_findCut_201 k a0 x1 x2 x3 u = some e) (g : G e) : VV X D bs u0 rmX12_findCut 6 0 0 (MQ X.2.2.2.2.2.2.1 (uQi D bs u0 v r) X.2.2.2.2.2.1 X.2.2.2.1 0 0 (uA bs u0)) u 201 [(0, .ref (bs + a0)), (1, .int x1), (2, .int x2), (3, .int x3)] [] := by
  unfold fX12_findCut_201 at h
  refine v_iconst C (0 : Int32) dX12_findCut_201 (by decide) ?_
  refine v_sub [(0, .ref (bs + a0)), (1, .int x1), (2, .int x2), (3, .int x3)] [0, 1, 2, 3] rfl ?_
  exact wX12_findCut_202 C hin hk hex  h g
set_option maxRecDepth 100000 in
set_option maxHeartbeats 4000000 in
theorem wX12_findCut_147 {X : UX} {D : UD} {bs tw : Nat} {u0 : UH} {r : Int32} {v : UH} (C : uCx X D bs tw cX12_findCut 6 RX12 (some .boolean)) (hin : X.2.2.2.2.2.2.2.1.name = "findCut") {a0 : Nat} {x1 : Int32} {x2 : Int32}  {G : (Int32 × UH) → Prop} {k : Int32 → Int32 → UH → Option (Int32 × UH)} (hk : ∀ (x3 : Int32) (x4 : Int32) (u' : UH) e, k x3 x4 u' = some e → G e → VV X D bs u0 rmX12_findCut 6 0 0 (MQ X.2.2.2.2.2.2.1 (uQi D bs u0 v r) X.2.2.2.2.2.1 X.2.2.2.1 0 0 (uA bs u0)) u' 41 [(0, .ref (bs + a0)), (1, .int x1), (2, .int x2), (3, .int x3), (4, .int x4)] []) (hex : ∀ (x4 : Int32) (u' : UH), G (x4, u') → VV X D bs u0 rmX12_findCut 6 0 0 (MQ X.2.2.2.2.2.2.1 (uQi D bs u0 v r) X.2.2.2.2.2.1 X.2.2.2.1 0 0 (uA bs u0)) u' 222 [(0, .ref (bs + a0)), (2, .int x2), (4, .int x4)] [])  {x3 : Int32} {x4 : Int32} {u : UH} {e : (Int32 × UH)} (h : fX12_findCut_147 k a0 x1 x2 x3 x4 u = some e) (g : G e) : VV X D bs u0 rmX12_findCut 6 0 0 (MQ X.2.2.2.2.2.2.1 (uQi D bs u0 v r) X.2.2.2.2.2.1 X.2.2.2.1 0 0 (uA bs u0)) u 147 [(0, .ref (bs + a0)), (1, .int x1), (2, .int x2), (3, .int x3), (4, .int x4)] [] := by
  unfold fX12_findCut_147 at h
  refine v_aload_n C 0 dX12_findCut_147 rfl rfl ?_
  refine v_getR C fdX12_41 dX12_findCut_148 h (fun b24 h => ?_)
  refine v_iload_n C 3 dX12_findCut_151 rfl rfl ?_
  refine v_ldI C dX12_findCut_152 h (fun y25 h => ?_)
  refine v_bipush C (36 : Int32) dX12_findCut_153 (by decide) ?_
  refine v_icmpne C 171 dX12_findCut_155 (by decide) h (fun _ h => ?_) (fun _ h => ?_)
  · refine v_aload_n C 0 dX12_findCut_171 rfl rfl ?_
    refine v_aload_n C 0 dX12_findCut_172 rfl rfl ?_
    refine v_getR C fdX12_41 dX12_findCut_173 h (fun b26 h => ?_)
    refine v_iload_n C 3 dX12_findCut_176 rfl rfl ?_
    refine v_ldI C dX12_findCut_177 h (fun y27 h => ?_)
    refine v_iconst C (0 : Int32) dX12_findCut_178 (by decide) ?_
    obtain ⟨u28, h1, h⟩ := ob_some h
    obtain ⟨hkd, h1⟩ := kd_some h1
    refine v_gov (rn_V C gcX12_208 (RX12, TX12, 33) rfl rfl (by decide) hkd (mX12_turn h1) ⟨rfl, rfl⟩ rfl ⟨Nat.le_of_ble_eq_true rfl, Nat.le_of_ble_eq_true rfl⟩ (rest := []) rfl (Nat.le_of_ble_eq_true rfl) ⟨Nat.le_of_ble_eq_true rfl, Nat.le_of_ble_eq_true rfl⟩ dX12_findCut_179) ?_
    refine v_iload_n C 3 dX12_findCut_182 rfl rfl ?_
    refine v_iload_n C 2 dX12_findCut_183 rfl rfl ?_
    refine v_iconst C (1 : Int32) dX12_findCut_184 (by decide) ?_
    refine v_isub C dX12_findCut_185 ?_
    refine v_icmpne C 201 dX12_findCut_186 (by decide) h (fun _ h => ?_) (fun _ h => ?_)
    · refine v_sub [(0, .ref (bs + a0)), (1, .int x1), (2, .int x2), (3, .int x3)] [0, 1, 2, 3] rfl ?_
      exact wX12_findCut_201 C hin hk hex  h g
    · refine v_aload_n C 0 dX12_findCut_189 rfl rfl ?_
      refine v_iload_n C 1 dX12_findCut_190 rfl rfl ?_
      obtain ⟨y31, u32, h1, h⟩ := ob2_some h
      obtain ⟨hkd, h1⟩ := kd_some h1
      refine v_goi (rn_V C gcX12_205 (RX12, TX12, 33) rfl rfl (by decide) hkd (mX12_isStopped h1) ⟨rfl, rfl⟩ rfl ⟨Nat.le_of_ble_eq_true rfl, Nat.le_of_ble_eq_true rfl⟩ (rest := []) rfl (Nat.le_of_ble_eq_true rfl) ⟨Nat.le_of_ble_eq_true rfl, Nat.le_of_ble_eq_true rfl⟩ dX12_findCut_191) ?_
      refine v_ifeq C 201 dX12_findCut_194 (by decide) h (fun _ h => ?_) (fun _ h => ?_)
      · refine v_sub [(0, .ref (bs + a0)), (1, .int x1), (2, .int x2), (3, .int x3)] [0, 1, 2, 3] rfl ?_
        exact wX12_findCut_201 C hin hk hex  h g
      · refine v_iconst C (1 : Int32) dX12_findCut_197 (by decide) ?_
        refine v_goto C 202 dX12_findCut_198 (by decide) ?_
        refine v_sub [(0, .ref (bs + a0)), (1, .int x1), (2, .int x2), (3, .int x3)] [0, 1, 2, 3] rfl ?_
        exact wX12_findCut_202 C hin hk hex  h g
  · refine v_aload_n C 0 dX12_findCut_158 rfl rfl ?_
    refine v_getR C fdX12_41 dX12_findCut_159 h (fun b33 h => ?_)
    refine v_iload_n C 3 dX12_findCut_162 rfl rfl ?_
    refine v_iconst C (-1 : Int32) dX12_findCut_163 (by decide) ?_
    refine v_stI C dX12_findCut_164 h (fun u34 h => ?_)
    refine v_iinc C 3 (x3 + (-1 : Int32)) [(3, .int (x3 + (-1 : Int32))), (0, .ref (bs + a0)), (1, .int x1), (2, .int x2), (4, .int x4)] dX12_findCut_165 rfl rfl (by decide) rfl ?_
    refine v_goto C 41 dX12_findCut_168 (by decide) ?_
    refine v_sub [(0, .ref (bs + a0)), (1, .int x1), (2, .int x2), (3, .int (x3 + (-1 : Int32))), (4, .int x4)] [1, 2, 3, 0, 4] rfl ?_
    exact hk (x3 + (-1 : Int32)) x4 u34 _ h g
set_option maxRecDepth 100000 in
set_option maxHeartbeats 4000000 in
theorem wX12_findCut_100 {X : UX} {D : UD} {bs tw : Nat} {u0 : UH} {r : Int32} {v : UH} (C : uCx X D bs tw cX12_findCut 6 RX12 (some .boolean)) (hin : X.2.2.2.2.2.2.2.1.name = "findCut") {a0 : Nat} {x1 : Int32} {x2 : Int32}  {G : (Int32 × UH) → Prop} {k : Int32 → Int32 → UH → Option (Int32 × UH)} (hk : ∀ (x3 : Int32) (x4 : Int32) (u' : UH) e, k x3 x4 u' = some e → G e → VV X D bs u0 rmX12_findCut 6 0 0 (MQ X.2.2.2.2.2.2.1 (uQi D bs u0 v r) X.2.2.2.2.2.1 X.2.2.2.1 0 0 (uA bs u0)) u' 41 [(0, .ref (bs + a0)), (1, .int x1), (2, .int x2), (3, .int x3), (4, .int x4)] []) (hex : ∀ (x4 : Int32) (u' : UH), G (x4, u') → VV X D bs u0 rmX12_findCut 6 0 0 (MQ X.2.2.2.2.2.2.1 (uQi D bs u0 v r) X.2.2.2.2.2.1 X.2.2.2.1 0 0 (uA bs u0)) u' 222 [(0, .ref (bs + a0)), (2, .int x2), (4, .int x4)] [])  {x3 : Int32} {x4 : Int32} {u : UH} {e : (Int32 × UH)} (h : fX12_findCut_100 k a0 x1 x2 x3 x4 u = some e) (g : G e) : VV X D bs u0 rmX12_findCut 6 0 0 (MQ X.2.2.2.2.2.2.1 (uQi D bs u0 v r) X.2.2.2.2.2.1 X.2.2.2.1 0 0 (uA bs u0)) u 100 [(0, .ref (bs + a0)), (1, .int x1), (2, .int x2), (3, .int x3), (4, .int x4)] [] := by
  unfold fX12_findCut_100 at h
  refine v_aload_n C 0 dX12_findCut_100 rfl rfl ?_
  refine v_getR C fdX12_41 dX12_findCut_101 h (fun b11 h => ?_)
  refine v_iload_n C 3 dX12_findCut_104 rfl rfl ?_
  refine v_dup2 C dX12_findCut_105 rfl rfl ?_
  refine v_ldI C dX12_findCut_106 h (fun y12 h => ?_)
  refine v_iconst C (1 : Int32) dX12_findCut_107 (by decide) ?_
  refine v_iadd C dX12_findCut_108 ?_
  refine v_stI C dX12_findCut_109 h (fun u13 h => ?_)
  refine v_sub [(0, .ref (bs + a0)), (1, .int x1), (2, .int x2), (3, .int x3), (4, .int x4)] [0, 1, 2, 3, 4] rfl ?_
  refine it1_O (V := fun  u' => VV X D bs u0 rmX12_findCut 6 0 0 (MQ X.2.2.2.2.2.2.1 (uQi D bs u0 v r) X.2.2.2.2.2.1 X.2.2.2.1 0 0 (uA bs u0)) u' 110 [(0, .ref (bs + a0)), (1, .int x1), (2, .int x2), (3, .int x3), (4, .int x4)] []) h (fun k_ hk_ => wX12_findCut_B110 C hin hk_ ?_ )
  intro z23 h
  try dsimp only [Sum.elim_inl] at h
  refine v_sub [(0, .ref (bs + a0)), (1, .int x1), (2, .int x2), (3, .int x3), (4, .int x4)] [0, 1, 2, 3, 4] rfl ?_
  exact wX12_findCut_147 C hin hk hex  h g
set_option maxRecDepth 100000 in
set_option maxHeartbeats 4000000 in
theorem wX12_findCut_99 {X : UX} {D : UD} {bs tw : Nat} {u0 : UH} {r : Int32} {v : UH} (C : uCx X D bs tw cX12_findCut 6 RX12 (some .boolean)) (hin : X.2.2.2.2.2.2.2.1.name = "findCut") {a0 : Nat} {x1 : Int32} {x2 : Int32}  {G : (Int32 × UH) → Prop} {k : Int32 → Int32 → UH → Option (Int32 × UH)} (hk : ∀ (x3 : Int32) (x4 : Int32) (u' : UH) e, k x3 x4 u' = some e → G e → VV X D bs u0 rmX12_findCut 6 0 0 (MQ X.2.2.2.2.2.2.1 (uQi D bs u0 v r) X.2.2.2.2.2.1 X.2.2.2.1 0 0 (uA bs u0)) u' 41 [(0, .ref (bs + a0)), (1, .int x1), (2, .int x2), (3, .int x3), (4, .int x4)] []) (hex : ∀ (x4 : Int32) (u' : UH), G (x4, u') → VV X D bs u0 rmX12_findCut 6 0 0 (MQ X.2.2.2.2.2.2.1 (uQi D bs u0 v r) X.2.2.2.2.2.1 X.2.2.2.1 0 0 (uA bs u0)) u' 222 [(0, .ref (bs + a0)), (2, .int x2), (4, .int x4)] [])  {x3 : Int32} {x4 : Int32} {s0 : Int32} {s1 : Int32} {s2 : Nat} {u : UH} {e : (Int32 × UH)} (h : fX12_findCut_99 k a0 x1 x2 x3 x4 s0 s1 s2 u = some e) (g : G e) : VV X D bs u0 rmX12_findCut 6 0 0 (MQ X.2.2.2.2.2.2.1 (uQi D bs u0 v r) X.2.2.2.2.2.1 X.2.2.2.1 0 0 (uA bs u0)) u 99 [(0, .ref (bs + a0)), (1, .int x1), (2, .int x2), (3, .int x3), (4, .int x4)] [.int s0, .int s1, .ref (bs + s2)] := by
  unfold fX12_findCut_99 at h
  refine v_stI C dX12_findCut_99 h (fun u10 h => ?_)
  refine v_sub [(0, .ref (bs + a0)), (1, .int x1), (2, .int x2), (3, .int x3), (4, .int x4)] [0, 1, 2, 3, 4] rfl ?_
  exact wX12_findCut_100 C hin hk hex  h g
set_option maxRecDepth 100000 in
set_option maxHeartbeats 4000000 in
theorem wX12_findCut_B41 {X : UX} {D : UD} {bs tw : Nat} {u0 : UH} {r : Int32} {v : UH} (C : uCx X D bs tw cX12_findCut 6 RX12 (some .boolean)) (hin : X.2.2.2.2.2.2.2.1.name = "findCut") {a0 : Nat} {x1 : Int32} {x2 : Int32}  {G : (Int32 × UH) → Prop} {k : Int32 → Int32 → UH → Option (Int32 × UH)} (hk : ∀ (x3 : Int32) (x4 : Int32) (u' : UH) e, k x3 x4 u' = some e → G e → VV X D bs u0 rmX12_findCut 6 0 0 (MQ X.2.2.2.2.2.2.1 (uQi D bs u0 v r) X.2.2.2.2.2.1 X.2.2.2.1 0 0 (uA bs u0)) u' 41 [(0, .ref (bs + a0)), (1, .int x1), (2, .int x2), (3, .int x3), (4, .int x4)] []) (hex : ∀ (x4 : Int32) (u' : UH), G (x4, u') → VV X D bs u0 rmX12_findCut 6 0 0 (MQ X.2.2.2.2.2.2.1 (uQi D bs u0 v r) X.2.2.2.2.2.1 X.2.2.2.1 0 0 (uA bs u0)) u' 222 [(0, .ref (bs + a0)), (2, .int x2), (4, .int x4)] [])  : ∀ (x3 : Int32) (x4 : Int32) (u : UH) e, fX12_findCut_B41 a0 x1 x2  k x3 x4 u = some e → G e → VV X D bs u0 rmX12_findCut 6 0 0 (MQ X.2.2.2.2.2.2.1 (uQi D bs u0 v r) X.2.2.2.2.2.1 X.2.2.2.1 0 0 (uA bs u0)) u 41 [(0, .ref (bs + a0)), (1, .int x1), (2, .int x2), (3, .int x3), (4, .int x4)] [] := by
  intro x3 x4 u e h g
  unfold fX12_findCut_B41 at h
  refine v_iload_n C 3 dX12_findCut_41 rfl rfl ?_
  refine v_iflt C 222 dX12_findCut_42 (by decide) h (fun _ h => ?_) (fun _ h => ?_)
  · refine v_sub [(0, .ref (bs + a0)), (2, .int x2), (4, .int x4)] [0, 2, 4] rfl ?_
    exact hex x4 u ((Option.some.inj h).symm ▸ g)
  · refine v_iload_n C 3 dX12_findCut_45 rfl rfl ?_
    refine v_iload_n C 2 dX12_findCut_46 rfl rfl ?_
    refine v_icmpge C 222 dX12_findCut_47 (by decide) h (fun _ h => ?_) (fun _ h => ?_)
    · refine v_sub [(0, .ref (bs + a0)), (2, .int x2), (4, .int x4)] [0, 2, 4] rfl ?_
      exact hex x4 u ((Option.some.inj h).symm ▸ g)
    · refine v_iload C 4 dX12_findCut_50 rfl ?_
      refine v_ifne C 222 dX12_findCut_52 (by decide) h (fun _ h => ?_) (fun _ h => ?_)
      · refine v_sub [(0, .ref (bs + a0)), (2, .int x2), (4, .int x4)] [0, 2, 4] rfl ?_
        exact hex x4 u ((Option.some.inj h).symm ▸ g)
      · refine v_aload_n C 0 dX12_findCut_55 rfl rfl ?_
        refine v_getR C fdX12_41 dX12_findCut_56 h (fun b5 h => ?_)
        refine v_iload_n C 3 dX12_findCut_59 rfl rfl ?_
        refine v_ldI C dX12_findCut_60 h (fun y6 h => ?_)
        refine v_iflt C 78 dX12_findCut_61 (by decide) h (fun _ h => ?_) (fun _ h => ?_)
        · refine v_aload_n C 0 dX12_findCut_78 rfl rfl ?_
          refine v_getR C fdX12_41 dX12_findCut_79 h (fun b7 h => ?_)
          refine v_iload_n C 3 dX12_findCut_82 rfl rfl ?_
          refine v_iload_n C 3 dX12_findCut_83 rfl rfl ?_
          refine v_ifne C 91 dX12_findCut_84 (by decide) h (fun _ h => ?_) (fun _ h => ?_)
          · refine v_aload_n C 0 dX12_findCut_91 rfl rfl ?_
            refine v_getR C fdX12_41 dX12_findCut_92 h (fun b8 h => ?_)
            refine v_iload_n C 3 dX12_findCut_95 rfl rfl ?_
            refine v_iconst C (1 : Int32) dX12_findCut_96 (by decide) ?_
            refine v_isub C dX12_findCut_97 ?_
            refine v_ldI C dX12_findCut_98 h (fun y9 h => ?_)
            refine v_sub [(0, .ref (bs + a0)), (1, .int x1), (2, .int x2), (3, .int x3), (4, .int x4)] [0, 1, 2, 3, 4] rfl ?_
            exact wX12_findCut_99 C hin hk hex  h g
          · refine v_iconst C (-1 : Int32) dX12_findCut_87 (by decide) ?_
            refine v_goto C 99 dX12_findCut_88 (by decide) ?_
            refine v_sub [(0, .ref (bs + a0)), (1, .int x1), (2, .int x2), (3, .int x3), (4, .int x4)] [0, 1, 2, 3, 4] rfl ?_
            exact wX12_findCut_99 C hin hk hex  h g
        · refine v_aload_n C 0 dX12_findCut_64 rfl rfl ?_
          refine v_aload_n C 0 dX12_findCut_65 rfl rfl ?_
          refine v_getR C fdX12_41 dX12_findCut_66 h (fun b35 h => ?_)
          refine v_iload_n C 3 dX12_findCut_69 rfl rfl ?_
          refine v_ldI C dX12_findCut_70 h (fun y36 h => ?_)
          refine v_iconst C (1 : Int32) dX12_findCut_71 (by decide) ?_
          obtain ⟨u37, h1, h⟩ := ob_some h
          obtain ⟨hkd, h1⟩ := kd_some h1
          refine v_gov (rn_V C gcX12_208 (RX12, TX12, 33) rfl rfl (by decide) hkd (mX12_turn h1) ⟨rfl, rfl⟩ rfl ⟨Nat.le_of_ble_eq_true rfl, Nat.le_of_ble_eq_true rfl⟩ (rest := []) rfl (Nat.le_of_ble_eq_true rfl) ⟨Nat.le_of_ble_eq_true rfl, Nat.le_of_ble_eq_true rfl⟩ dX12_findCut_72) ?_
          refine v_goto C 100 dX12_findCut_75 (by decide) ?_
          refine v_sub [(0, .ref (bs + a0)), (1, .int x1), (2, .int x2), (3, .int x3), (4, .int x4)] [0, 1, 2, 3, 4] rfl ?_
          exact wX12_findCut_100 C hin hk hex  h g
set_option maxRecDepth 100000 in
set_option maxHeartbeats 4000000 in
theorem wX12_findCut_B225 {X : UX} {D : UD} {bs tw : Nat} {u0 : UH} {r : Int32} {v : UH} (C : uCx X D bs tw cX12_findCut 6 RX12 (some .boolean)) (hin : X.2.2.2.2.2.2.2.1.name = "findCut") {a0 : Nat} {x2 : Int32} {x4 : Int32}  {G : UH → Prop} {k : Int32 → UH → Option UH} (hk : ∀ (x5 : Int32) (u' : UH) e, k x5 u' = some e → G e → VV X D bs u0 rmX12_findCut 6 0 0 (MQ X.2.2.2.2.2.2.1 (uQi D bs u0 v r) X.2.2.2.2.2.1 X.2.2.2.1 0 0 (uA bs u0)) u' 225 [(0, .ref (bs + a0)), (2, .int x2), (4, .int x4), (5, .int x5)] []) (hex : ∀  (u' : UH), G u' → VV X D bs u0 rmX12_findCut 6 0 0 (MQ X.2.2.2.2.2.2.1 (uQi D bs u0 v r) X.2.2.2.2.2.1 X.2.2.2.1 0 0 (uA bs u0)) u' 259 [(4, .int x4)] [])  : ∀ (x5 : Int32) (u : UH) e, fX12_findCut_B225 a0 x2  k x5 u = some e → G e → VV X D bs u0 rmX12_findCut 6 0 0 (MQ X.2.2.2.2.2.2.1 (uQi D bs u0 v r) X.2.2.2.2.2.1 X.2.2.2.1 0 0 (uA bs u0)) u 225 [(0, .ref (bs + a0)), (2, .int x2), (4, .int x4), (5, .int x5)] [] := by
  intro x5 u e h g
  unfold fX12_findCut_B225 at h
  refine v_iload C 3 dX12_findCut_225 rfl ?_
  refine v_iload_n C 1 dX12_findCut_227 rfl rfl ?_
  refine v_icmpge C 259 dX12_findCut_228 (by decide) h (fun _ h => ?_) (fun _ h => ?_)
  · refine v_sub [(4, .int x4)] [2] rfl ?_
    exact hex u ((Option.some.inj h).symm ▸ g)
  · refine v_aload_n C 0 dX12_findCut_231 rfl rfl ?_
    refine v_getR C fdX12_41 dX12_findCut_232 h (fun b41 h => ?_)
    refine v_iload C 3 dX12_findCut_235 rfl ?_
    refine v_ldI C dX12_findCut_237 h (fun y42 h => ?_)
    refine v_iflt C 253 dX12_findCut_238 (by decide) h (fun _ h => ?_) (fun _ h => ?_)
    · refine v_iinc C 3 (x5 + (1 : Int32)) [(5, .int (x5 + (1 : Int32))), (0, .ref (bs + a0)), (2, .int x2), (4, .int x4)] dX12_findCut_253 rfl rfl (by decide) rfl ?_
      refine v_goto C 225 dX12_findCut_256 (by decide) ?_
      refine v_sub [(0, .ref (bs + a0)), (2, .int x2), (4, .int x4), (5, .int (x5 + (1 : Int32)))] [1, 2, 3, 0] rfl ?_
      exact hk (x5 + (1 : Int32)) u _ h g
    · refine v_aload_n C 0 dX12_findCut_241 rfl rfl ?_
      refine v_aload_n C 0 dX12_findCut_242 rfl rfl ?_
      refine v_getR C fdX12_41 dX12_findCut_243 h (fun b43 h => ?_)
      refine v_iload C 3 dX12_findCut_246 rfl ?_
      refine v_ldI C dX12_findCut_248 h (fun y44 h => ?_)
      refine v_iconst C (1 : Int32) dX12_findCut_249 (by decide) ?_
      obtain ⟨u45, h1, h⟩ := ob_some h
      obtain ⟨hkd, h1⟩ := kd_some h1
      refine v_gov (rn_V C gcX12_208 (RX12, TX12, 33) rfl rfl (by decide) hkd (mX12_turn h1) ⟨rfl, rfl⟩ rfl ⟨Nat.le_of_ble_eq_true rfl, Nat.le_of_ble_eq_true rfl⟩ (rest := []) rfl (Nat.le_of_ble_eq_true rfl) ⟨Nat.le_of_ble_eq_true rfl, Nat.le_of_ble_eq_true rfl⟩ dX12_findCut_250) ?_
      refine v_iinc C 3 (x5 + (1 : Int32)) [(5, .int (x5 + (1 : Int32))), (0, .ref (bs + a0)), (2, .int x2), (4, .int x4)] dX12_findCut_253 rfl rfl (by decide) rfl ?_
      refine v_goto C 225 dX12_findCut_256 (by decide) ?_
      refine v_sub [(0, .ref (bs + a0)), (2, .int x2), (4, .int x4), (5, .int (x5 + (1 : Int32)))] [1, 2, 3, 0] rfl ?_
      exact hk (x5 + (1 : Int32)) u45 _ h g
set_option maxRecDepth 100000 in
set_option maxHeartbeats 4000000 in
theorem wX12_findCut_222 {X : UX} {D : UD} {bs tw : Nat} {u0 : UH} {r : Int32} {v : UH} (C : uCx X D bs tw cX12_findCut 6 RX12 (some .boolean)) (hin : X.2.2.2.2.2.2.2.1.name = "findCut") {a0 : Nat} {x2 : Int32} {x4 : Int32} {u : UH} (h : fX12_findCut_222 a0 x2 x4 u = some (r, v)) : VV X D bs u0 rmX12_findCut 6 0 0 (MQ X.2.2.2.2.2.2.1 (uQi D bs u0 v r) X.2.2.2.2.2.1 X.2.2.2.1 0 0 (uA bs u0)) u 222 [(0, .ref (bs + a0)), (2, .int x2), (4, .int x4)] [] := by
  unfold fX12_findCut_222 at h
  refine v_iconst C (0 : Int32) dX12_findCut_222 (by decide) ?_
  refine v_istore C [(5, .int (0 : Int32)), (0, .ref (bs + a0)), (2, .int x2), (4, .int x4)] dX12_findCut_223 (by decide) rfl ?_
  refine v_sub [(0, .ref (bs + a0)), (2, .int x2), (4, .int x4), (5, .int (0 : Int32))] [1, 2, 3, 0] rfl ?_
  refine it2_O (V := fun x5 u' => VV X D bs u0 rmX12_findCut 6 0 0 (MQ X.2.2.2.2.2.2.1 (uQi D bs u0 v r) X.2.2.2.2.2.1 X.2.2.2.1 0 0 (uA bs u0)) u' 225 [(0, .ref (bs + a0)), (2, .int x2), (4, .int x4), (5, .int x5)] []) h (fun k_ hk_ => wX12_findCut_B225 C hin hk_ ?_ )
  intro z47 h
  try dsimp only [Sum.elim_inl] at h
  refine v_iload C 0 dX12_findCut_259 rfl ?_
  obtain ⟨hz, h⟩ := bz_some h
  exact v_zret C dX12_findCut_261 (Prod.mk.inj (Option.some.inj h)).2 (Prod.mk.inj (Option.some.inj h)).1 (nz hz)
set_option maxRecDepth 100000 in
set_option maxHeartbeats 4000000 in
theorem wX12_findCut_39 {X : UX} {D : UD} {bs tw : Nat} {u0 : UH} {r : Int32} {v : UH} (C : uCx X D bs tw cX12_findCut 6 RX12 (some .boolean)) (hin : X.2.2.2.2.2.2.2.1.name = "findCut") {a0 : Nat} {x1 : Int32} {x2 : Int32} {x3 : Int32} {s0 : Int32} {u : UH} (h : fX12_findCut_39 a0 x1 x2 x3 s0 u = some (r, v)) : VV X D bs u0 rmX12_findCut 6 0 0 (MQ X.2.2.2.2.2.2.1 (uQi D bs u0 v r) X.2.2.2.2.2.1 X.2.2.2.1 0 0 (uA bs u0)) u 39 [(0, .ref (bs + a0)), (1, .int x1), (2, .int x2), (3, .int x3)] [.int s0] := by
  unfold fX12_findCut_39 at h
  refine v_istore C [(4, .int s0), (0, .ref (bs + a0)), (1, .int x1), (2, .int x2), (3, .int x3)] dX12_findCut_39 (by decide) rfl ?_
  refine v_sub [(0, .ref (bs + a0)), (1, .int x1), (2, .int x2), (3, .int x3), (4, .int s0)] [1, 2, 3, 4, 0] rfl ?_
  refine it3_O (V := fun x3 x4 u' => VV X D bs u0 rmX12_findCut 6 0 0 (MQ X.2.2.2.2.2.2.1 (uQi D bs u0 v r) X.2.2.2.2.2.1 X.2.2.2.1 0 0 (uA bs u0)) u' 41 [(0, .ref (bs + a0)), (1, .int x1), (2, .int x2), (3, .int x3), (4, .int x4)] []) h (fun k_ hk_ => wX12_findCut_B41 C hin hk_ ?_ )
  intro z39 z40 h
  try dsimp only [Sum.elim_inl] at h
  refine v_sub [(0, .ref (bs + a0)), (2, .int x2), (4, .int z39)] [0, 1, 2] rfl ?_
  exact wX12_findCut_222 C hin h
set_option maxRecDepth 100000 in
set_option maxHeartbeats 4000000 in
theorem wX12_findCut_38 {X : UX} {D : UD} {bs tw : Nat} {u0 : UH} {r : Int32} {v : UH} (C : uCx X D bs tw cX12_findCut 6 RX12 (some .boolean)) (hin : X.2.2.2.2.2.2.2.1.name = "findCut") {a0 : Nat} {x1 : Int32} {x2 : Int32} {x3 : Int32} {u : UH} (h : fX12_findCut_38 a0 x1 x2 x3 u = some (r, v)) : VV X D bs u0 rmX12_findCut 6 0 0 (MQ X.2.2.2.2.2.2.1 (uQi D bs u0 v r) X.2.2.2.2.2.1 X.2.2.2.1 0 0 (uA bs u0)) u 38 [(0, .ref (bs + a0)), (1, .int x1), (2, .int x2), (3, .int x3)] [] := by
  unfold fX12_findCut_38 at h
  refine v_iconst C (0 : Int32) dX12_findCut_38 (by decide) ?_
  refine v_sub [(0, .ref (bs + a0)), (1, .int x1), (2, .int x2), (3, .int x3)] [0, 1, 2, 3] rfl ?_
  exact wX12_findCut_39 C hin h
set_option maxRecDepth 100000 in
set_option maxHeartbeats 4000000 in
theorem mX12_findCut {l : Launch} {D : UD} {bs : Nat} {a0 : Nat} {x1 : Int32} {x2 : Int32} {u0 : UH} {r : Int32} {v : UH} (h : fX12_findCut a0 x1 x2 u0 = some (r, v)) : Met l yX12_findCut (wz yX12_findCut cX12_findCut 6 (some .boolean)) rmX12_findCut (va_Pc [.ref (bs + a0), .int x1, .int x2] (uIn D bs u0)) (uQi D bs u0 v r) 0 0 (uA bs u0) := by
  refine uMet (by decide) (Nat.le_of_ble_eq_true rfl) ?_
  intro X tw hX C hin
  have C : uCx X D bs tw cX12_findCut 6 RX12 (some .boolean) := C
  have hin : X.2.2.2.2.2.2.2.1.name = "findCut" := hin
  refine v_L [(0, .ref (bs + a0)), (1, .int x1), (2, .int x2)] rfl ?_
  unfold fX12_findCut at h
  refine v_iconst C (0 : Int32) dX12_findCut_0 (by decide) ?_
  refine v_istore_n C [(3, .int (0 : Int32)), (0, .ref (bs + a0)), (1, .int x1), (2, .int x2)] dX12_findCut_1 rfl (by decide) rfl ?_
  refine v_sub [(0, .ref (bs + a0)), (1, .int x1), (2, .int x2), (3, .int (0 : Int32))] [1, 2, 3, 0] rfl ?_
  refine it2_O (V := fun x3 u' => VV X D bs u0 rmX12_findCut 6 0 0 (MQ X.2.2.2.2.2.2.1 (uQi D bs u0 v r) X.2.2.2.2.2.1 X.2.2.2.1 0 0 (uA bs u0)) u' 2 [(0, .ref (bs + a0)), (1, .int x1), (2, .int x2), (3, .int x3)] []) h (fun k_ hk_ => wX12_findCut_B2 C hin hk_ ?_ )
  intro z4 h
  try dsimp only [Sum.elim_inl] at h
  refine v_iconst C (0 : Int32) dX12_findCut_20 (by decide) ?_
  refine v_istore_n C [(3, .int (0 : Int32)), (0, .ref (bs + a0)), (1, .int x1), (2, .int x2)] dX12_findCut_21 rfl (by decide) rfl ?_
  refine v_iload_n C 3 dX12_findCut_22 rfl rfl ?_
  refine v_ifne C 38 dX12_findCut_23 (by decide) h (fun _ h => ?_) (fun _ h => ?_)
  · refine v_sub [(0, .ref (bs + a0)), (1, .int x1), (2, .int x2), (3, .int (0 : Int32))] [1, 2, 3, 0] rfl ?_
    exact wX12_findCut_38 C hin h
  · refine v_aload_n C 1 dX12_findCut_26 rfl rfl ?_
    refine v_iload_n C 2 dX12_findCut_27 rfl rfl ?_
    obtain ⟨y5, u6, h1, h⟩ := ob2_some h
    obtain ⟨hkd, h1⟩ := kd_some h1
    refine v_goi (rn_V C gcX12_205 (RX12, TX12, 33) rfl rfl (by decide) hkd (mX12_isStopped h1) ⟨rfl, rfl⟩ rfl ⟨Nat.le_of_ble_eq_true rfl, Nat.le_of_ble_eq_true rfl⟩ (rest := []) rfl (Nat.le_of_ble_eq_true rfl) ⟨Nat.le_of_ble_eq_true rfl, Nat.le_of_ble_eq_true rfl⟩ dX12_findCut_28) ?_
    refine v_ifeq C 38 dX12_findCut_31 (by decide) h (fun _ h => ?_) (fun _ h => ?_)
    · refine v_sub [(0, .ref (bs + a0)), (1, .int x1), (2, .int x2), (3, .int (0 : Int32))] [1, 2, 3, 0] rfl ?_
      exact wX12_findCut_38 C hin h
    · refine v_iconst C (1 : Int32) dX12_findCut_34 (by decide) ?_
      refine v_goto C 39 dX12_findCut_35 (by decide) ?_
      refine v_sub [(0, .ref (bs + a0)), (1, .int x1), (2, .int x2), (3, .int (0 : Int32))] [1, 2, 3, 0] rfl ?_
      exact wX12_findCut_39 C hin h
set_option maxRecDepth 100000 in
set_option maxHeartbeats 4000000 in
theorem wX12_findSize_B2 {X : UX} {D : UD} {bs tw : Nat} {u0 : UH} {r : Int32} {v : UH} (C : uCx X D bs tw cX12_findSize 3 RX12 (some .int)) (hin : X.2.2.2.2.2.2.2.1.name = "findSize") {a0 : Nat} {x1 : Int32}  {G : (UH ⊕ (Int32 × UH)) → Prop} {k : Int32 → UH → Option (UH ⊕ (Int32 × UH))} (hk : ∀ (x2 : Int32) (u' : UH) e, k x2 u' = some e → G e → VV X D bs u0 rmX12_findSize 3 0 0 (MQ X.2.2.2.2.2.2.1 (uQi D bs u0 v r) X.2.2.2.2.2.1 X.2.2.2.1 0 0 (uA bs u0)) u' 2 [(0, .ref (bs + a0)), (1, .int x1), (2, .int x2)] []) (hex : ∀  (u' : UH), G (Sum.inl u') → VV X D bs u0 rmX12_findSize 3 0 0 (MQ X.2.2.2.2.2.2.1 (uQi D bs u0 v r) X.2.2.2.2.2.1 X.2.2.2.1 0 0 (uA bs u0)) u' 24 [] []) (hret : ∀ x, G (Sum.inr x) → x = (r, v)) : ∀ (x2 : Int32) (u : UH) e, fX12_findSize_B2 a0 x1  k x2 u = some e → G e → VV X D bs u0 rmX12_findSize 3 0 0 (MQ X.2.2.2.2.2.2.1 (uQi D bs u0 v r) X.2.2.2.2.2.1 X.2.2.2.1 0 0 (uA bs u0)) u 2 [(0, .ref (bs + a0)), (1, .int x1), (2, .int x2)] [] := by
  intro x2 u e h g
  unfold fX12_findSize_B2 at h
  refine v_iload_n C 2 dX12_findSize_2 rfl rfl ?_
  refine v_iconst C (4 : Int32) dX12_findSize_3 (by decide) ?_
  refine v_icmpge C 24 dX12_findSize_4 (by decide) h (fun _ h => ?_) (fun _ h => ?_)
  · refine v_sub [] [] rfl ?_
    exact hex u ((Option.some.inj h).symm ▸ g)
  · refine v_aload_n C 0 dX12_findSize_7 rfl rfl ?_
    refine v_iload_n C 1 dX12_findSize_8 rfl rfl ?_
    refine v_iload_n C 2 dX12_findSize_9 rfl rfl ?_
    obtain ⟨y1, u2, h1, h⟩ := ob2_some h
    obtain ⟨hkd, h1⟩ := kd_some h1
    refine v_goi (rn_V C gcX12_214 (RX12, TX12, 33) rfl rfl (by decide) hkd (mX12_findCut h1) ⟨rfl, rfl⟩ rfl ⟨Nat.le_of_ble_eq_true rfl, Nat.le_of_ble_eq_true rfl⟩ (rest := []) rfl (Nat.le_of_ble_eq_true rfl) ⟨Nat.le_of_ble_eq_true rfl, Nat.le_of_ble_eq_true rfl⟩ dX12_findSize_10) ?_
    refine v_ifeq C 18 dX12_findSize_13 (by decide) h (fun _ h => ?_) (fun _ h => ?_)
    · refine v_iinc C 2 (x2 + (1 : Int32)) [(2, .int (x2 + (1 : Int32))), (0, .ref (bs + a0)), (1, .int x1)] dX12_findSize_18 rfl rfl (by decide) rfl ?_
      refine v_goto C 2 dX12_findSize_21 (by decide) ?_
      refine v_sub [(0, .ref (bs + a0)), (1, .int x1), (2, .int (x2 + (1 : Int32)))] [1, 2, 0] rfl ?_
      exact hk (x2 + (1 : Int32)) u2 _ h g
    · refine v_iload_n C 2 dX12_findSize_16 rfl rfl ?_
      have h := hret (x2, u2) ((Option.some.inj h).symm ▸ g)
      exact v_iret C dX12_findSize_17 (Prod.mk.inj h).2 (Prod.mk.inj h).1
set_option maxRecDepth 100000 in
set_option maxHeartbeats 4000000 in
theorem mX12_findSize {l : Launch} {D : UD} {bs : Nat} {a0 : Nat} {x1 : Int32} {u0 : UH} {r : Int32} {v : UH} (h : fX12_findSize a0 x1 u0 = some (r, v)) : Met l yX12_findSize (wz yX12_findSize cX12_findSize 3 (some .int)) rmX12_findSize (va_Pc [.ref (bs + a0), .int x1] (uIn D bs u0)) (uQi D bs u0 v r) 0 0 (uA bs u0) := by
  refine uMet (by decide) (Nat.le_of_ble_eq_true rfl) ?_
  intro X tw hX C hin
  have C : uCx X D bs tw cX12_findSize 3 RX12 (some .int) := C
  have hin : X.2.2.2.2.2.2.2.1.name = "findSize" := hin
  refine v_L [(0, .ref (bs + a0)), (1, .int x1)] rfl ?_
  unfold fX12_findSize at h
  refine v_iconst C (0 : Int32) dX12_findSize_0 (by decide) ?_
  refine v_istore_n C [(2, .int (0 : Int32)), (0, .ref (bs + a0)), (1, .int x1)] dX12_findSize_1 rfl (by decide) rfl ?_
  refine v_sub [(0, .ref (bs + a0)), (1, .int x1), (2, .int (0 : Int32))] [1, 2, 0] rfl ?_
  refine it2_S (V := fun x2 u' => VV X D bs u0 rmX12_findSize 3 0 0 (MQ X.2.2.2.2.2.2.1 (uQi D bs u0 v r) X.2.2.2.2.2.1 X.2.2.2.1 0 0 (uA bs u0)) u' 2 [(0, .ref (bs + a0)), (1, .int x1), (2, .int x2)] []) h (fun k_ hk_ => wX12_findSize_B2 C hin hk_ ?_ (fun x hx => Option.some.inj (show some x = some _ from hx)))
  intro z4 h
  try dsimp only [Sum.elim_inl] at h
  refine v_bipush C (-6 : Int32) dX12_findSize_24 (by decide) ?_
  exact v_iret C dX12_findSize_26 (Prod.mk.inj (Option.some.inj h)).2 (Prod.mk.inj (Option.some.inj h)).1
set_option maxRecDepth 100000 in
set_option maxHeartbeats 4000000 in
theorem mX12_cutSize {l : Launch} {D : UD} {bs : Nat} {a0 : Nat} {x1 : Int32} {x2 : Int32} {u0 : UH} {r : Int32} {v : UH} (h : fX12_cutSize a0 x1 x2 u0 = some (r, v)) : Met l yX12_cutSize (wz yX12_cutSize cX12_cutSize 3 (some .int)) rmX12_cutSize (va_Pc [.ref (bs + a0), .int x1, .int x2] (uIn D bs u0)) (uQi D bs u0 v r) 0 0 (uA bs u0) := by
  refine uMet (by decide) (Nat.le_of_ble_eq_true rfl) ?_
  intro X tw hX C hin
  have C : uCx X D bs tw cX12_cutSize 3 RX12 (some .int) := C
  have hin : X.2.2.2.2.2.2.2.1.name = "cutSize" := hin
  refine v_L [(0, .ref (bs + a0)), (1, .int x1), (2, .int x2)] rfl ?_
  unfold fX12_cutSize at h
  refine v_iload_n C 1 dX12_cutSize_0 rfl rfl ?_
  refine v_iload_n C 2 dX12_cutSize_1 rfl rfl ?_
  obtain ⟨y1, h1, h⟩ := ob_some h
  refine v_goi (rn_S C gcX12_106 (mX12_noPlace h1) ⟨rfl, rfl⟩ rfl ⟨Nat.le_of_ble_eq_true rfl, Nat.le_of_ble_eq_true rfl⟩ (rest := []) rfl (Nat.le_of_ble_eq_true rfl) ⟨Nat.le_of_ble_eq_true rfl, Nat.le_of_ble_eq_true rfl⟩ dX12_cutSize_2) ?_
  refine v_ifeq C 12 dX12_cutSize_5 (by decide) h (fun _ h => ?_) (fun _ h => ?_)
  · refine v_aload_n C 0 dX12_cutSize_12 rfl rfl ?_
    refine v_iconst C (4 : Int32) dX12_cutSize_13 (by decide) ?_
    refine v_iload_n C 1 dX12_cutSize_14 rfl rfl ?_
    refine v_imul C dX12_cutSize_15 ?_
    refine v_iload_n C 2 dX12_cutSize_16 rfl rfl ?_
    refine v_iadd C dX12_cutSize_17 ?_
    obtain ⟨y2, u3, h1, h⟩ := ob2_some h
    obtain ⟨hkd, h1⟩ := kd_some h1
    refine v_goi (rn_V C gcX12_217 (RX12, TX12, 33) rfl rfl (by decide) hkd (mX12_findSize h1) ⟨rfl, rfl⟩ rfl ⟨Nat.le_of_ble_eq_true rfl, Nat.le_of_ble_eq_true rfl⟩ (rest := []) rfl (Nat.le_of_ble_eq_true rfl) ⟨Nat.le_of_ble_eq_true rfl, Nat.le_of_ble_eq_true rfl⟩ dX12_cutSize_18) ?_
    exact v_iret C dX12_cutSize_21 (Prod.mk.inj (Option.some.inj h)).2 (Prod.mk.inj (Option.some.inj h)).1
  · refine v_iconst C (-1 : Int32) dX12_cutSize_8 (by decide) ?_
    refine v_goto C 21 dX12_cutSize_9 (by decide) ?_
    exact v_iret C dX12_cutSize_21 (Prod.mk.inj (Option.some.inj h)).2 (Prod.mk.inj (Option.some.inj h)).1
set_option maxRecDepth 100000 in
set_option maxHeartbeats 4000000 in
theorem mX12_cutRule {l : Launch} {D : UD} {bs : Nat} {a0 : Nat} {x1 : Int32} {x2 : Int32} {x3 : Int32} {u0 : UH} {r : Int32} {v : UH} (h : fX12_cutRule a0 x1 x2 x3 u0 = some (r, v)) : Met l yX12_cutRule (wz yX12_cutRule cX12_cutRule 5 (some .int)) rmX12_cutRule (va_Pc [.ref (bs + a0), .int x1, .int x2, .int x3] (uIn D bs u0)) (uQi D bs u0 v r) 0 0 (uA bs u0) := by
  refine uMet (by decide) (Nat.le_of_ble_eq_true rfl) ?_
  intro X tw hX C hin
  have C : uCx X D bs tw cX12_cutRule 5 RX12 (some .int) := C
  have hin : X.2.2.2.2.2.2.2.1.name = "cutRule" := hin
  refine v_L [(0, .ref (bs + a0)), (1, .int x1), (2, .int x2), (3, .int x3)] rfl ?_
  unfold fX12_cutRule at h
  refine v_iload_n C 1 dX12_cutRule_0 rfl rfl ?_
  refine v_iload_n C 2 dX12_cutRule_1 rfl rfl ?_
  obtain ⟨y1, h1, h⟩ := ob_some h
  refine v_goi (rn_S C gcX12_106 (mX12_noPlace h1) ⟨rfl, rfl⟩ rfl ⟨Nat.le_of_ble_eq_true rfl, Nat.le_of_ble_eq_true rfl⟩ (rest := []) rfl (Nat.le_of_ble_eq_true rfl) ⟨Nat.le_of_ble_eq_true rfl, Nat.le_of_ble_eq_true rfl⟩ dX12_cutRule_2) ?_
  refine v_ifeq C 10 dX12_cutRule_5 (by decide) h (fun _ h => ?_) (fun _ h => ?_)
  · refine v_iload_n C 3 dX12_cutRule_10 rfl rfl ?_
    refine v_ifge C 17 dX12_cutRule_11 (by decide) h (fun _ h => ?_) (fun _ h => ?_)
    · refine v_aload_n C 0 dX12_cutRule_17 rfl rfl ?_
      refine v_iconst C (4 : Int32) dX12_cutRule_18 (by decide) ?_
      refine v_iload_n C 1 dX12_cutRule_19 rfl rfl ?_
      refine v_imul C dX12_cutRule_20 ?_
      refine v_iload_n C 2 dX12_cutRule_21 rfl rfl ?_
      refine v_iadd C dX12_cutRule_22 ?_
      obtain ⟨y2, u3, h1, h⟩ := ob2_some h
      obtain ⟨hkd, h1⟩ := kd_some h1
      refine v_goi (rn_V C gcX12_217 (RX12, TX12, 33) rfl rfl (by decide) hkd (mX12_findSize h1) ⟨rfl, rfl⟩ rfl ⟨Nat.le_of_ble_eq_true rfl, Nat.le_of_ble_eq_true rfl⟩ (rest := []) rfl (Nat.le_of_ble_eq_true rfl) ⟨Nat.le_of_ble_eq_true rfl, Nat.le_of_ble_eq_true rfl⟩ dX12_cutRule_23) ?_
      refine v_istore C [(4, .int y2), (0, .ref (bs + a0)), (1, .int x1), (2, .int x2), (3, .int x3)] dX12_cutRule_26 (by decide) rfl ?_
      refine v_iload_n C 4 dX12_cutRule_28 rfl rfl ?_
      refine v_iload C 0 dX12_cutRule_29 rfl ?_
      refine v_icmpge C 59 dX12_cutRule_31 (by decide) h (fun _ h => ?_) (fun _ h => ?_)
      · refine v_bipush C (-6 : Int32) dX12_cutRule_59 (by decide) ?_
        exact v_iret C dX12_cutRule_61 (Prod.mk.inj (Option.some.inj h)).2 (Prod.mk.inj (Option.some.inj h)).1
      · refine v_bipush C (10 : Int32) dX12_cutRule_34 (by decide) ?_
        refine v_aload_n C 1 dX12_cutRule_36 rfl rfl ?_
        refine v_getR C fdX12_41 dX12_cutRule_37 h (fun b4 h => ?_)
        refine v_iload_n C 4 dX12_cutRule_40 rfl rfl ?_
        refine v_ldI C dX12_cutRule_41 h (fun y5 h => ?_)
        refine v_bipush C (6 : Int32) dX12_cutRule_42 (by decide) ?_
        refine v_idiv C dX12_cutRule_44 (by decide) ?_
        refine v_imul C dX12_cutRule_45 ?_
        refine v_aload_n C 1 dX12_cutRule_46 rfl rfl ?_
        refine v_getR C fdX12_41 dX12_cutRule_47 h (fun b6 h => ?_)
        refine v_iload_n C 4 dX12_cutRule_50 rfl rfl ?_
        refine v_ldI C dX12_cutRule_51 h (fun y7 h => ?_)
        refine v_bipush C (6 : Int32) dX12_cutRule_52 (by decide) ?_
        refine v_irem C dX12_cutRule_54 (by decide) ?_
        refine v_iadd C dX12_cutRule_55 ?_
        refine v_goto C 61 dX12_cutRule_56 (by decide) ?_
        exact v_iret C dX12_cutRule_61 (Prod.mk.inj (Option.some.inj h)).2 (Prod.mk.inj (Option.some.inj h)).1
    · refine v_bipush C (-3 : Int32) dX12_cutRule_14 (by decide) ?_
      exact v_iret C dX12_cutRule_16 (Prod.mk.inj (Option.some.inj h)).2 (Prod.mk.inj (Option.some.inj h)).1
  · refine v_iconst C (-1 : Int32) dX12_cutRule_8 (by decide) ?_
    exact v_iret C dX12_cutRule_9 (Prod.mk.inj (Option.some.inj h)).2 (Prod.mk.inj (Option.some.inj h)).1
set_option maxRecDepth 100000 in
set_option maxHeartbeats 4000000 in
theorem mX12_addPolicy {l : Launch} {D : UD} {bs : Nat} {a0 : Nat} {x1 : Int32} {x2 : Int32} {x3 : Int32} {x4 : Int32} {x5 : Int32} {u0 : UH} {r : Int32} {v : UH} (h : fX12_addPolicy a0 x1 x2 x3 x4 x5 u0 = some (r, v)) : Met l yX12_addPolicy (wz yX12_addPolicy cX12_addPolicy 6 (some .int)) rmX12_addPolicy (va_Pc [.ref (bs + a0), .int x1, .int x2, .int x3, .int x4, .int x5] (uIn D bs u0)) (uQi D bs u0 v r) 0 0 (uA bs u0) := by
  refine uMet (by decide) (Nat.le_of_ble_eq_true rfl) ?_
  intro X tw hX C hin
  have C : uCx X D bs tw cX12_addPolicy 6 RX12 (some .int) := C
  have hin : X.2.2.2.2.2.2.2.1.name = "addPolicy" := hin
  refine v_L [(0, .ref (bs + a0)), (1, .int x1), (2, .int x2), (3, .int x3), (4, .int x4), (5, .int x5)] rfl ?_
  unfold fX12_addPolicy at h
  refine v_iload_n C 2 dX12_addPolicy_0 rfl rfl ?_
  refine v_iload_n C 3 dX12_addPolicy_1 rfl rfl ?_
  obtain ⟨y1, h1, h⟩ := ob_some h
  refine v_goi (rn_S C gcX12_106 (mX12_noPlace h1) ⟨rfl, rfl⟩ rfl ⟨Nat.le_of_ble_eq_true rfl, Nat.le_of_ble_eq_true rfl⟩ (rest := []) rfl (Nat.le_of_ble_eq_true rfl) ⟨Nat.le_of_ble_eq_true rfl, Nat.le_of_ble_eq_true rfl⟩ dX12_addPolicy_2) ?_
  refine v_ifne C 18 dX12_addPolicy_5 (by decide) h (fun _ h => ?_) (fun _ h => ?_)
  · refine v_iconst C (-1 : Int32) dX12_addPolicy_18 (by decide) ?_
    exact v_iret C dX12_addPolicy_19 (Prod.mk.inj (Option.some.inj h)).2 (Prod.mk.inj (Option.some.inj h)).1
  · refine v_iload C 4 dX12_addPolicy_8 rfl ?_
    refine v_iload C 5 dX12_addPolicy_10 rfl ?_
    obtain ⟨y2, h1, h⟩ := ob_some h
    refine v_goi (rn_S C gcX12_106 (mX12_noPlace h1) ⟨rfl, rfl⟩ rfl ⟨Nat.le_of_ble_eq_true rfl, Nat.le_of_ble_eq_true rfl⟩ (rest := []) rfl (Nat.le_of_ble_eq_true rfl) ⟨Nat.le_of_ble_eq_true rfl, Nat.le_of_ble_eq_true rfl⟩ dX12_addPolicy_12) ?_
    refine v_ifeq C 20 dX12_addPolicy_15 (by decide) h (fun _ h => ?_) (fun _ h => ?_)
    · refine v_aload_n C 0 dX12_addPolicy_20 rfl rfl ?_
      refine v_getI C fdX12_88 dX12_addPolicy_21 h (fun y3 h => ?_)
      refine v_bipush C (8 : Int32) dX12_addPolicy_24 (by decide) ?_
      refine v_icmpne C 32 dX12_addPolicy_26 (by decide) h (fun _ h => ?_) (fun _ h => ?_)
      · refine v_aload_n C 0 dX12_addPolicy_32 rfl rfl ?_
        refine v_getR C fdX12_44 dX12_addPolicy_33 h (fun b4 h => ?_)
        refine v_aload_n C 0 dX12_addPolicy_36 rfl rfl ?_
        refine v_getI C fdX12_88 dX12_addPolicy_37 h (fun y5 h => ?_)
        refine v_iload_n C 1 dX12_addPolicy_40 rfl rfl ?_
        refine v_stZ C dX12_addPolicy_41 h (fun u6 h => ?_)
        refine v_aload_n C 0 dX12_addPolicy_42 rfl rfl ?_
        refine v_getR C fdX12_48 dX12_addPolicy_43 h (fun b7 h => ?_)
        refine v_aload_n C 0 dX12_addPolicy_46 rfl rfl ?_
        refine v_getI C fdX12_88 dX12_addPolicy_47 h (fun y8 h => ?_)
        refine v_iconst C (4 : Int32) dX12_addPolicy_50 (by decide) ?_
        refine v_iload_n C 2 dX12_addPolicy_51 rfl rfl ?_
        refine v_imul C dX12_addPolicy_52 ?_
        refine v_iload_n C 3 dX12_addPolicy_53 rfl rfl ?_
        refine v_iadd C dX12_addPolicy_54 ?_
        refine v_stI C dX12_addPolicy_55 h (fun u9 h => ?_)
        refine v_aload_n C 0 dX12_addPolicy_56 rfl rfl ?_
        refine v_getR C fdX12_51 dX12_addPolicy_57 h (fun b10 h => ?_)
        refine v_aload_n C 0 dX12_addPolicy_60 rfl rfl ?_
        refine v_getI C fdX12_88 dX12_addPolicy_61 h (fun y11 h => ?_)
        refine v_iconst C (4 : Int32) dX12_addPolicy_64 (by decide) ?_
        refine v_iload C 4 dX12_addPolicy_65 rfl ?_
        refine v_imul C dX12_addPolicy_67 ?_
        refine v_iload C 5 dX12_addPolicy_68 rfl ?_
        refine v_iadd C dX12_addPolicy_70 ?_
        refine v_stI C dX12_addPolicy_71 h (fun u12 h => ?_)
        refine v_aload_n C 0 dX12_addPolicy_72 rfl rfl ?_
        refine v_getR C fdX12_54 dX12_addPolicy_73 h (fun b13 h => ?_)
        refine v_aload_n C 0 dX12_addPolicy_76 rfl rfl ?_
        refine v_getI C fdX12_88 dX12_addPolicy_77 h (fun y14 h => ?_)
        refine v_iconst C (0 : Int32) dX12_addPolicy_80 (by decide) ?_
        refine v_stI C dX12_addPolicy_81 h (fun u15 h => ?_)
        refine v_aload_n C 0 dX12_addPolicy_82 rfl rfl ?_
        refine v_getR C fdX12_57 dX12_addPolicy_83 h (fun b16 h => ?_)
        refine v_aload_n C 0 dX12_addPolicy_86 rfl rfl ?_
        refine v_getI C fdX12_88 dX12_addPolicy_87 h (fun y17 h => ?_)
        refine v_iconst C (0 : Int32) dX12_addPolicy_90 (by decide) ?_
        refine v_stI C dX12_addPolicy_91 h (fun u18 h => ?_)
        refine v_aload_n C 0 dX12_addPolicy_92 rfl rfl ?_
        refine v_dup C dX12_addPolicy_93 rfl ?_
        refine v_getI C fdX12_88 dX12_addPolicy_94 h (fun y19 h => ?_)
        refine v_iconst C (1 : Int32) dX12_addPolicy_97 (by decide) ?_
        refine v_iadd C dX12_addPolicy_98 ?_
        refine v_putI C fdX12_88 (fun h => by cases h) dX12_addPolicy_99 h (fun u20 h => ?_)
        refine v_aload_n C 0 dX12_addPolicy_102 rfl rfl ?_
        refine v_getI C fdX12_88 dX12_addPolicy_103 h (fun y21 h => ?_)
        refine v_iconst C (1 : Int32) dX12_addPolicy_106 (by decide) ?_
        refine v_isub C dX12_addPolicy_107 ?_
        exact v_iret C dX12_addPolicy_108 (Prod.mk.inj (Option.some.inj h)).2 (Prod.mk.inj (Option.some.inj h)).1
      · refine v_bipush C (-5 : Int32) dX12_addPolicy_29 (by decide) ?_
        exact v_iret C dX12_addPolicy_31 (Prod.mk.inj (Option.some.inj h)).2 (Prod.mk.inj (Option.some.inj h)).1
    · refine v_iconst C (-1 : Int32) dX12_addPolicy_18 (by decide) ?_
      exact v_iret C dX12_addPolicy_19 (Prod.mk.inj (Option.some.inj h)).2 (Prod.mk.inj (Option.some.inj h)).1
set_option maxRecDepth 100000 in
set_option maxHeartbeats 4000000 in
theorem mX12_noPolicy {l : Launch} {D : UD} {bs : Nat} {a0 : Nat} {x1 : Int32} {u0 : UH} {r : Int32} (h : fX12_noPolicy a0 x1 u0 = some r) : Met l yX12_noPolicy (wz yX12_noPolicy cX12_noPolicy 2 (some .boolean)) rmX12_noPolicy (va_Pc [.ref (bs + a0), .int x1] (uIn D bs u0)) (uQi D bs u0 u0 r) 0 0 (uA bs u0) := by
  refine uMet (by decide) (Nat.le_of_ble_eq_true rfl) ?_
  intro X tw hX C hin
  have C : uCx X D bs tw cX12_noPolicy 2 RX12 (some .boolean) := C
  have hin : X.2.2.2.2.2.2.2.1.name = "noPolicy" := hin
  refine v_L [(0, .ref (bs + a0)), (1, .int x1)] rfl ?_
  unfold fX12_noPolicy at h
  refine v_iload_n C 1 dX12_noPolicy_0 rfl rfl ?_
  refine v_iconst C (0 : Int32) dX12_noPolicy_1 (by decide) ?_
  refine v_aload_n C 0 dX12_noPolicy_2 rfl rfl ?_
  refine v_getI C fdX12_88 dX12_noPolicy_3 h (fun y1 h => ?_)
  refine v_iconst C (1 : Int32) dX12_noPolicy_6 (by decide) ?_
  refine v_isub C dX12_noPolicy_7 ?_
  obtain ⟨y2, h1, h⟩ := ob_some h
  refine v_goi (rn_S C gcX12_94 (mX12_in h1) ⟨rfl, rfl⟩ rfl ⟨Nat.le_of_ble_eq_true rfl, Nat.le_of_ble_eq_true rfl⟩ (rest := []) rfl (Nat.le_of_ble_eq_true rfl) ⟨Nat.le_of_ble_eq_true rfl, Nat.le_of_ble_eq_true rfl⟩ dX12_noPolicy_8) ?_
  refine v_ifne C 18 dX12_noPolicy_11 (by decide) h (fun _ h => ?_) (fun _ h => ?_)
  · refine v_iconst C (0 : Int32) dX12_noPolicy_18 (by decide) ?_
    exact v_zret C dX12_noPolicy_19 rfl (Option.some.inj h) rfl
  · refine v_iconst C (1 : Int32) dX12_noPolicy_14 (by decide) ?_
    refine v_goto C 19 dX12_noPolicy_15 (by decide) ?_
    exact v_zret C dX12_noPolicy_19 rfl (Option.some.inj h) rfl
set_option maxRecDepth 100000 in
set_option maxHeartbeats 4000000 in
theorem mX12_setPolicyCube {l : Launch} {D : UD} {bs : Nat} {a0 : Nat} {x1 : Int32} {x2 : Int32} {x3 : Int32} {u0 : UH} {r : Int32} {v : UH} (h : fX12_setPolicyCube a0 x1 x2 x3 u0 = some (r, v)) : Met l yX12_setPolicyCube (wz yX12_setPolicyCube cX12_setPolicyCube 4 (some .int)) rmX12_setPolicyCube (va_Pc [.ref (bs + a0), .int x1, .int x2, .int x3] (uIn D bs u0)) (uQi D bs u0 v r) 0 0 (uA bs u0) := by
  refine uMet (by decide) (Nat.le_of_ble_eq_true rfl) ?_
  intro X tw hX C hin
  have C : uCx X D bs tw cX12_setPolicyCube 4 RX12 (some .int) := C
  have hin : X.2.2.2.2.2.2.2.1.name = "setPolicyCube" := hin
  refine v_L [(0, .ref (bs + a0)), (1, .int x1), (2, .int x2), (3, .int x3)] rfl ?_
  unfold fX12_setPolicyCube at h
  refine v_aload_n C 0 dX12_setPolicyCube_0 rfl rfl ?_
  refine v_iload_n C 1 dX12_setPolicyCube_1 rfl rfl ?_
  obtain ⟨y1, h1, h⟩ := ob_some h
  obtain ⟨hkd, h1⟩ := kd_some h1
  refine v_goi (rn_V C gcX12_220 (RX12, TX12, 33) rfl rfl (by decide) hkd (mX12_noPolicy h1) ⟨rfl, rfl⟩ rfl ⟨Nat.le_of_ble_eq_true rfl, Nat.le_of_ble_eq_true rfl⟩ (rest := []) rfl (Nat.le_of_ble_eq_true rfl) ⟨Nat.le_of_ble_eq_true rfl, Nat.le_of_ble_eq_true rfl⟩ dX12_setPolicyCube_2) ?_
  refine v_ifne C 24 dX12_setPolicyCube_5 (by decide) h (fun _ h => ?_) (fun _ h => ?_)
  · refine v_bipush C (-3 : Int32) dX12_setPolicyCube_24 (by decide) ?_
    exact v_iret C dX12_setPolicyCube_26 (Prod.mk.inj (Option.some.inj h)).2 (Prod.mk.inj (Option.some.inj h)).1
  · refine v_aload_n C 0 dX12_setPolicyCube_8 rfl rfl ?_
    refine v_iload_n C 2 dX12_setPolicyCube_9 rfl rfl ?_
    obtain ⟨y2, h1, h⟩ := ob_some h
    obtain ⟨hkd, h1⟩ := kd_some h1
    refine v_goi (rn_V C gcX12_122 (RX12, TX12, 33) rfl rfl (by decide) hkd (mX12_noHeader h1) ⟨rfl, rfl⟩ rfl ⟨Nat.le_of_ble_eq_true rfl, Nat.le_of_ble_eq_true rfl⟩ (rest := []) rfl (Nat.le_of_ble_eq_true rfl) ⟨Nat.le_of_ble_eq_true rfl, Nat.le_of_ble_eq_true rfl⟩ dX12_setPolicyCube_10) ?_
    refine v_ifne C 24 dX12_setPolicyCube_13 (by decide) h (fun _ h => ?_) (fun _ h => ?_)
    · refine v_bipush C (-3 : Int32) dX12_setPolicyCube_24 (by decide) ?_
      exact v_iret C dX12_setPolicyCube_26 (Prod.mk.inj (Option.some.inj h)).2 (Prod.mk.inj (Option.some.inj h)).1
    · refine v_aload_n C 0 dX12_setPolicyCube_16 rfl rfl ?_
      refine v_iload_n C 3 dX12_setPolicyCube_17 rfl rfl ?_
      obtain ⟨y3, h1, h⟩ := ob_some h
      obtain ⟨hkd, h1⟩ := kd_some h1
      refine v_goi (rn_V C gcX12_122 (RX12, TX12, 33) rfl rfl (by decide) hkd (mX12_noHeader h1) ⟨rfl, rfl⟩ rfl ⟨Nat.le_of_ble_eq_true rfl, Nat.le_of_ble_eq_true rfl⟩ (rest := []) rfl (Nat.le_of_ble_eq_true rfl) ⟨Nat.le_of_ble_eq_true rfl, Nat.le_of_ble_eq_true rfl⟩ dX12_setPolicyCube_18) ?_
      refine v_ifeq C 27 dX12_setPolicyCube_21 (by decide) h (fun _ h => ?_) (fun _ h => ?_)
      · refine v_aload_n C 0 dX12_setPolicyCube_27 rfl rfl ?_
        refine v_getR C fdX12_54 dX12_setPolicyCube_28 h (fun b4 h => ?_)
        refine v_iload_n C 1 dX12_setPolicyCube_31 rfl rfl ?_
        refine v_iload_n C 2 dX12_setPolicyCube_32 rfl rfl ?_
        refine v_stI C dX12_setPolicyCube_33 h (fun u5 h => ?_)
        refine v_aload_n C 0 dX12_setPolicyCube_34 rfl rfl ?_
        refine v_getR C fdX12_57 dX12_setPolicyCube_35 h (fun b6 h => ?_)
        refine v_iload_n C 1 dX12_setPolicyCube_38 rfl rfl ?_
        refine v_iload_n C 3 dX12_setPolicyCube_39 rfl rfl ?_
        refine v_iload_n C 2 dX12_setPolicyCube_40 rfl rfl ?_
        refine v_iand C dX12_setPolicyCube_41 ?_
        refine v_stI C dX12_setPolicyCube_42 h (fun u7 h => ?_)
        refine v_aload_n C 0 dX12_setPolicyCube_43 rfl rfl ?_
        refine v_iload_n C 2 dX12_setPolicyCube_44 rfl rfl ?_
        refine v_iload_n C 3 dX12_setPolicyCube_45 rfl rfl ?_
        obtain ⟨y8, h1, h⟩ := ob_some h
        obtain ⟨hkd, h1⟩ := kd_some h1
        refine v_gol (rn_V C gcX12_185 (RX12, TX12, 33) rfl rfl (by decide) hkd (mX12_cubeOf h1) ⟨rfl, rfl⟩ rfl ⟨Nat.le_of_ble_eq_true rfl, Nat.le_of_ble_eq_true rfl⟩ (rest := []) rfl (Nat.le_of_ble_eq_true rfl) ⟨Nat.le_of_ble_eq_true rfl, Nat.le_of_ble_eq_true rfl⟩ dX12_setPolicyCube_46) ?_
        obtain ⟨y9, h1, h⟩ := ob_some h
        refine v_goi (rn_S C gcX12_172 (mX12_size h1) ⟨rfl, rfl⟩ rfl ⟨Nat.le_of_ble_eq_true rfl, Nat.le_of_ble_eq_true rfl⟩ (rest := []) rfl (Nat.le_of_ble_eq_true rfl) ⟨Nat.le_of_ble_eq_true rfl, Nat.le_of_ble_eq_true rfl⟩ dX12_setPolicyCube_49) ?_
        exact v_iret C dX12_setPolicyCube_52 (Prod.mk.inj (Option.some.inj h)).2 (Prod.mk.inj (Option.some.inj h)).1
      · refine v_bipush C (-3 : Int32) dX12_setPolicyCube_24 (by decide) ?_
        exact v_iret C dX12_setPolicyCube_26 (Prod.mk.inj (Option.some.inj h)).2 (Prod.mk.inj (Option.some.inj h)).1
set_option maxRecDepth 100000 in
set_option maxHeartbeats 4000000 in
theorem wX12_against_67 {X : UX} {D : UD} {bs tw : Nat} {u0 : UH} {r : Int64} {v : UH} (C : uCx X D bs tw cX12_against 6 RX12 (some .long)) (hin : X.2.2.2.2.2.2.2.1.name = "against") {a0 : Nat} {x1 : Int32}  {G : (Int64 × UH) → Prop} {k : Int64 → Int32 → UH → Option (Int64 × UH)} (hk : ∀ (x2 : Int64) (x4 : Int32) (u' : UH) e, k x2 x4 u' = some e → G e → VV X D bs u0 rmX12_against 6 0 0 (MQ X.2.2.2.2.2.2.1 (uQl D bs u0 v r) X.2.2.2.2.2.1 X.2.2.2.1 0 0 (uA bs u0)) u' 5 [(0, .ref (bs + a0)), (1, .int x1), (2, .long x2), (4, .int x4)] []) (hex : ∀ (x2 : Int64) (u' : UH), G (x2, u') → VV X D bs u0 rmX12_against 6 0 0 (MQ X.2.2.2.2.2.2.1 (uQl D bs u0 v r) X.2.2.2.2.2.1 X.2.2.2.1 0 0 (uA bs u0)) u' 97 [(2, .long x2)] [])  {x2 : Int64} {x4 : Int32} {s0 : Int32} {u : UH} {e : (Int64 × UH)} (h : fX12_against_67 k a0 x1 x2 x4 s0 u = some e) (g : G e) : VV X D bs u0 rmX12_against 6 0 0 (MQ X.2.2.2.2.2.2.1 (uQl D bs u0 v r) X.2.2.2.2.2.1 X.2.2.2.1 0 0 (uA bs u0)) u 67 [(0, .ref (bs + a0)), (1, .int x1), (2, .long x2), (4, .int x4)] [.int s0] := by
  unfold fX12_against_67 at h
  refine v_istore C [(5, .int s0), (0, .ref (bs + a0)), (1, .int x1), (2, .long x2), (4, .int x4)] dX12_against_67 (by decide) rfl ?_
  refine v_lload_n C 3 dX12_against_69 rfl rfl ?_
  refine v_iload C 0 dX12_against_70 rfl ?_
  refine v_aload_n C 1 dX12_against_72 rfl rfl ?_
  refine v_getR C fdX12_44 dX12_against_73 h (fun b13 h => ?_)
  refine v_iload_n C 2 dX12_against_76 rfl rfl ?_
  refine v_ldZ C dX12_against_77 h (fun y14 h => ?_)
  refine v_icmpeq C 88 dX12_against_78 (by decide) h (fun _ h => ?_) (fun _ h => ?_)
  · refine v_lconst C (0 : Int64) dX12_against_88 (by decide) ?_
    refine v_lor C dX12_against_89 ?_
    refine v_ltl h (fun y15 h => ?_)
    refine v_lstore_n C [(2, .long y15), (5, .int s0), (0, .ref (bs + a0)), (1, .int x1), (4, .int x4)] dX12_against_90 rfl (by decide) rfl ?_
    refine v_iinc C 4 (x4 + (1 : Int32)) [(4, .int (x4 + (1 : Int32))), (2, .long y15), (5, .int s0), (0, .ref (bs + a0)), (1, .int x1)] dX12_against_91 rfl rfl (by decide) rfl ?_
    refine v_goto C 5 dX12_against_94 (by decide) ?_
    refine v_sub [(0, .ref (bs + a0)), (1, .int x1), (2, .long y15), (4, .int (x4 + (1 : Int32)))] [3, 4, 1, 0] rfl ?_
    exact hk y15 (x4 + (1 : Int32)) u _ h g
  · refine v_lconst C (1 : Int64) dX12_against_81 (by decide) ?_
    refine v_iload C 4 dX12_against_82 rfl ?_
    refine v_lshl C dX12_against_84 ?_
    refine v_goto C 89 dX12_against_85 (by decide) ?_
    refine v_lor C dX12_against_89 ?_
    refine v_ltl h (fun y16 h => ?_)
    refine v_lstore_n C [(2, .long y16), (5, .int s0), (0, .ref (bs + a0)), (1, .int x1), (4, .int x4)] dX12_against_90 rfl (by decide) rfl ?_
    refine v_iinc C 4 (x4 + (1 : Int32)) [(4, .int (x4 + (1 : Int32))), (2, .long y16), (5, .int s0), (0, .ref (bs + a0)), (1, .int x1)] dX12_against_91 rfl rfl (by decide) rfl ?_
    refine v_goto C 5 dX12_against_94 (by decide) ?_
    refine v_sub [(0, .ref (bs + a0)), (1, .int x1), (2, .long y16), (4, .int (x4 + (1 : Int32)))] [3, 4, 1, 0] rfl ?_
    exact hk y16 (x4 + (1 : Int32)) u _ h g
set_option maxRecDepth 100000 in
set_option maxHeartbeats 4000000 in
theorem wX12_against_B5 {X : UX} {D : UD} {bs tw : Nat} {u0 : UH} {r : Int64} {v : UH} (C : uCx X D bs tw cX12_against 6 RX12 (some .long)) (hin : X.2.2.2.2.2.2.2.1.name = "against") {a0 : Nat} {x1 : Int32}  {G : (Int64 × UH) → Prop} {k : Int64 → Int32 → UH → Option (Int64 × UH)} (hk : ∀ (x2 : Int64) (x4 : Int32) (u' : UH) e, k x2 x4 u' = some e → G e → VV X D bs u0 rmX12_against 6 0 0 (MQ X.2.2.2.2.2.2.1 (uQl D bs u0 v r) X.2.2.2.2.2.1 X.2.2.2.1 0 0 (uA bs u0)) u' 5 [(0, .ref (bs + a0)), (1, .int x1), (2, .long x2), (4, .int x4)] []) (hex : ∀ (x2 : Int64) (u' : UH), G (x2, u') → VV X D bs u0 rmX12_against 6 0 0 (MQ X.2.2.2.2.2.2.1 (uQl D bs u0 v r) X.2.2.2.2.2.1 X.2.2.2.1 0 0 (uA bs u0)) u' 97 [(2, .long x2)] [])  : ∀ (x2 : Int64) (x4 : Int32) (u : UH) e, fX12_against_B5 a0 x1  k x2 x4 u = some e → G e → VV X D bs u0 rmX12_against 6 0 0 (MQ X.2.2.2.2.2.2.1 (uQl D bs u0 v r) X.2.2.2.2.2.1 X.2.2.2.1 0 0 (uA bs u0)) u 5 [(0, .ref (bs + a0)), (1, .int x1), (2, .long x2), (4, .int x4)] [] := by
  intro x2 x4 u e h g
  unfold fX12_against_B5 at h
  refine v_iload C 3 dX12_against_5 rfl ?_
  refine v_aload_n C 0 dX12_against_7 rfl rfl ?_
  obtain ⟨y1, h1, h⟩ := ob_some h
  obtain ⟨hkd, h1⟩ := kd_some h1
  refine v_goi (rn_V C gcX12_98 (RX12, TX12, 33) rfl rfl (by decide) hkd (mX12_headers h1) ⟨rfl, rfl⟩ rfl ⟨Nat.le_of_ble_eq_true rfl, Nat.le_of_ble_eq_true rfl⟩ (rest := [.int x4]) rfl (Nat.le_of_ble_eq_true rfl) ⟨Nat.le_of_ble_eq_true rfl, Nat.le_of_ble_eq_true rfl⟩ dX12_against_8) ?_
  refine v_icmpge C 97 dX12_against_11 (by decide) h (fun _ h => ?_) (fun _ h => ?_)
  · refine v_sub [(2, .long x2)] [2] rfl ?_
    exact hex x2 u ((Option.some.inj h).symm ▸ g)
  · refine v_iload C 3 dX12_against_14 rfl ?_
    refine v_aload_n C 0 dX12_against_16 rfl rfl ?_
    refine v_getR C fdX12_54 dX12_against_17 h (fun b2 h => ?_)
    refine v_iload_n C 1 dX12_against_20 rfl rfl ?_
    refine v_ldI C dX12_against_21 h (fun y3 h => ?_)
    refine v_iand C dX12_against_22 ?_
    refine v_aload_n C 0 dX12_against_23 rfl rfl ?_
    refine v_getR C fdX12_57 dX12_against_24 h (fun b4 h => ?_)
    refine v_iload_n C 1 dX12_against_27 rfl rfl ?_
    refine v_ldI C dX12_against_28 h (fun y5 h => ?_)
    refine v_icmpne C 91 dX12_against_29 (by decide) h (fun _ h => ?_) (fun _ h => ?_)
    · refine v_iinc C 3 (x4 + (1 : Int32)) [(4, .int (x4 + (1 : Int32))), (0, .ref (bs + a0)), (1, .int x1), (2, .long x2)] dX12_against_91 rfl rfl (by decide) rfl ?_
      refine v_goto C 5 dX12_against_94 (by decide) ?_
      refine v_sub [(0, .ref (bs + a0)), (1, .int x1), (2, .long x2), (4, .int (x4 + (1 : Int32)))] [1, 2, 3, 0] rfl ?_
      exact hk x2 (x4 + (1 : Int32)) u _ h g
    · refine v_aload_n C 0 dX12_against_32 rfl rfl ?_
      refine v_aload_n C 0 dX12_against_33 rfl rfl ?_
      refine v_getR C fdX12_48 dX12_against_34 h (fun b6 h => ?_)
      refine v_iload_n C 1 dX12_against_37 rfl rfl ?_
      refine v_ldI C dX12_against_38 h (fun y7 h => ?_)
      refine v_lconst C (1 : Int64) dX12_against_39 (by decide) ?_
      refine v_iload C 3 dX12_against_40 rfl ?_
      refine v_lshl C dX12_against_42 ?_
      obtain ⟨u8, h1, h⟩ := ob_some h
      obtain ⟨hkd, h1⟩ := kd_some h1
      refine v_gov (rn_V C gcX12_168 (RX12, TX12, 33) rfl rfl (by decide) hkd (mX12_spread h1) ⟨rfl, rfl⟩ rfl ⟨Nat.le_of_ble_eq_true rfl, Nat.le_of_ble_eq_true rfl⟩ (rest := []) rfl (Nat.le_of_ble_eq_true rfl) ⟨Nat.le_of_ble_eq_true rfl, Nat.le_of_ble_eq_true rfl⟩ dX12_against_43) ?_
      refine v_aload_n C 0 dX12_against_46 rfl rfl ?_
      refine v_getR C fdX12_29 dX12_against_47 h (fun b9 h => ?_)
      refine v_aload_n C 0 dX12_against_50 rfl rfl ?_
      refine v_getR C fdX12_51 dX12_against_51 h (fun b10 h => ?_)
      refine v_iload_n C 1 dX12_against_54 rfl rfl ?_
      refine v_ldI C dX12_against_55 h (fun y11 h => ?_)
      refine v_ldJ C dX12_against_56 h (fun y12 h => ?_)
      refine v_lconst C (0 : Int64) dX12_against_57 (by decide) ?_
      refine v_lcmpeq C 66 dX12_against_58 dX12_against_59 (by decide) h (fun _ h => ?_) (fun _ h => ?_)
      · refine v_iconst C (0 : Int32) dX12_against_66 (by decide) ?_
        refine v_sub [(0, .ref (bs + a0)), (1, .int x1), (2, .long x2), (4, .int x4)] [0, 1, 2, 3] rfl ?_
        exact wX12_against_67 C hin hk hex  h g
      · refine v_iconst C (1 : Int32) dX12_against_62 (by decide) ?_
        refine v_goto C 67 dX12_against_63 (by decide) ?_
        refine v_sub [(0, .ref (bs + a0)), (1, .int x1), (2, .long x2), (4, .int x4)] [0, 1, 2, 3] rfl ?_
        exact wX12_against_67 C hin hk hex  h g
set_option maxRecDepth 100000 in
set_option maxHeartbeats 4000000 in
theorem mX12_against {l : Launch} {D : UD} {bs : Nat} {a0 : Nat} {x1 : Int32} {u0 : UH} {r : Int64} {v : UH} (h : fX12_against a0 x1 u0 = some (r, v)) : Met l yX12_against (wz yX12_against cX12_against 6 (some .long)) rmX12_against (va_Pc [.ref (bs + a0), .int x1] (uIn D bs u0)) (uQl D bs u0 v r) 0 0 (uA bs u0) := by
  refine uMet (by decide) (Nat.le_of_ble_eq_true rfl) ?_
  intro X tw hX C hin
  have C : uCx X D bs tw cX12_against 6 RX12 (some .long) := C
  have hin : X.2.2.2.2.2.2.2.1.name = "against" := hin
  refine v_L [(0, .ref (bs + a0)), (1, .int x1)] rfl ?_
  unfold fX12_against at h
  refine v_lconst C (0 : Int64) dX12_against_0 (by decide) ?_
  refine v_lstore_n C [(2, .long (0 : Int64)), (0, .ref (bs + a0)), (1, .int x1)] dX12_against_1 rfl (by decide) rfl ?_
  refine v_iconst C (0 : Int32) dX12_against_2 (by decide) ?_
  refine v_istore C [(4, .int (0 : Int32)), (2, .long (0 : Int64)), (0, .ref (bs + a0)), (1, .int x1)] dX12_against_3 (by decide) rfl ?_
  refine v_sub [(0, .ref (bs + a0)), (1, .int x1), (2, .long (0 : Int64)), (4, .int (0 : Int32))] [2, 3, 1, 0] rfl ?_
  refine it3_O (V := fun x2 x4 u' => VV X D bs u0 rmX12_against 6 0 0 (MQ X.2.2.2.2.2.2.1 (uQl D bs u0 v r) X.2.2.2.2.2.1 X.2.2.2.1 0 0 (uA bs u0)) u' 5 [(0, .ref (bs + a0)), (1, .int x1), (2, .long x2), (4, .int x4)] []) h (fun k_ hk_ => wX12_against_B5 C hin hk_ ?_ )
  intro z18 z19 h
  try dsimp only [Sum.elim_inl] at h
  refine v_lload_n C 0 dX12_against_97 rfl rfl ?_
  exact v_lret C dX12_against_98 (Prod.mk.inj (Option.some.inj h)).2 (Prod.mk.inj (Option.some.inj h)).1
set_option maxRecDepth 100000 in
set_option maxHeartbeats 4000000 in
theorem mX12_counterexamples {l : Launch} {D : UD} {bs : Nat} {a0 : Nat} {x1 : Int32} {u0 : UH} {r : Int64} {v : UH} (h : fX12_counterexamples a0 x1 u0 = some (r, v)) : Met l yX12_counterexamples (wz yX12_counterexamples cX12_counterexamples 2 (some .long)) rmX12_counterexamples (va_Pc [.ref (bs + a0), .int x1] (uIn D bs u0)) (uQl D bs u0 v r) 0 0 (uA bs u0) := by
  refine uMet (by decide) (Nat.le_of_ble_eq_true rfl) ?_
  intro X tw hX C hin
  have C : uCx X D bs tw cX12_counterexamples 2 RX12 (some .long) := C
  have hin : X.2.2.2.2.2.2.2.1.name = "counterexamples" := hin
  refine v_L [(0, .ref (bs + a0)), (1, .int x1)] rfl ?_
  unfold fX12_counterexamples at h
  refine v_aload_n C 0 dX12_counterexamples_0 rfl rfl ?_
  refine v_iload_n C 1 dX12_counterexamples_1 rfl rfl ?_
  obtain ⟨y1, h1, h⟩ := ob_some h
  obtain ⟨hkd, h1⟩ := kd_some h1
  refine v_goi (rn_V C gcX12_220 (RX12, TX12, 33) rfl rfl (by decide) hkd (mX12_noPolicy h1) ⟨rfl, rfl⟩ rfl ⟨Nat.le_of_ble_eq_true rfl, Nat.le_of_ble_eq_true rfl⟩ (rest := []) rfl (Nat.le_of_ble_eq_true rfl) ⟨Nat.le_of_ble_eq_true rfl, Nat.le_of_ble_eq_true rfl⟩ dX12_counterexamples_2) ?_
  refine v_ifeq C 14 dX12_counterexamples_5 (by decide) h (fun _ h => ?_) (fun _ h => ?_)
  · refine v_aload_n C 0 dX12_counterexamples_14 rfl rfl ?_
    refine v_iload_n C 1 dX12_counterexamples_15 rfl rfl ?_
    obtain ⟨y2, u3, h1, h⟩ := ob2_some h
    obtain ⟨hkd, h1⟩ := kd_some h1
    refine v_gol (rn_V C gcX12_223 (RX12, TX12, 33) rfl rfl (by decide) hkd (mX12_against h1) ⟨rfl, rfl⟩ rfl ⟨Nat.le_of_ble_eq_true rfl, Nat.le_of_ble_eq_true rfl⟩ (rest := []) rfl (Nat.le_of_ble_eq_true rfl) ⟨Nat.le_of_ble_eq_true rfl, Nat.le_of_ble_eq_true rfl⟩ dX12_counterexamples_16) ?_
    exact v_lret C dX12_counterexamples_19 (Prod.mk.inj (Option.some.inj h)).2 (Prod.mk.inj (Option.some.inj h)).1
  · obtain ⟨y4, h1, h⟩ := ob_some h
    refine v_gol (rn_S C gcX12_176 (mX12_lost h1) ⟨rfl, rfl⟩ rfl ⟨Nat.le_of_ble_eq_true rfl, Nat.le_of_ble_eq_true rfl⟩ (rest := []) rfl (Nat.le_of_ble_eq_true rfl) ⟨Nat.le_of_ble_eq_true rfl, Nat.le_of_ble_eq_true rfl⟩ dX12_counterexamples_8) ?_
    refine v_goto C 19 dX12_counterexamples_11 (by decide) ?_
    exact v_lret C dX12_counterexamples_19 (Prod.mk.inj (Option.some.inj h)).2 (Prod.mk.inj (Option.some.inj h)).1
set_option maxRecDepth 100000 in
set_option maxHeartbeats 4000000 in
theorem wX12_violated_B4 {X : UX} {D : UD} {bs tw : Nat} {u0 : UH} {r : Int32} {v : UH} (C : uCx X D bs tw cX12_violated 3 RX12 (some .int)) (hin : X.2.2.2.2.2.2.2.1.name = "violated") {a0 : Nat}  {G : (Int32 × UH) → Prop} {k : Int32 → Int32 → UH → Option (Int32 × UH)} (hk : ∀ (x1 : Int32) (x2 : Int32) (u' : UH) e, k x1 x2 u' = some e → G e → VV X D bs u0 rmX12_violated 3 0 0 (MQ X.2.2.2.2.2.2.1 (uQi D bs u0 v r) X.2.2.2.2.2.1 X.2.2.2.1 0 0 (uA bs u0)) u' 4 [(0, .ref (bs + a0)), (1, .int x1), (2, .int x2)] []) (hex : ∀ (x1 : Int32) (u' : UH), G (x1, u') → VV X D bs u0 rmX12_violated 3 0 0 (MQ X.2.2.2.2.2.2.1 (uQi D bs u0 v r) X.2.2.2.2.2.1 X.2.2.2.1 0 0 (uA bs u0)) u' 38 [(1, .int x1)] [])  : ∀ (x1 : Int32) (x2 : Int32) (u : UH) e, fX12_violated_B4 a0  k x1 x2 u = some e → G e → VV X D bs u0 rmX12_violated 3 0 0 (MQ X.2.2.2.2.2.2.1 (uQi D bs u0 v r) X.2.2.2.2.2.1 X.2.2.2.1 0 0 (uA bs u0)) u 4 [(0, .ref (bs + a0)), (1, .int x1), (2, .int x2)] [] := by
  intro x1 x2 u e h g
  unfold fX12_violated_B4 at h
  refine v_iload_n C 2 dX12_violated_4 rfl rfl ?_
  refine v_aload_n C 0 dX12_violated_5 rfl rfl ?_
  refine v_getI C fdX12_88 dX12_violated_6 h (fun y1 h => ?_)
  refine v_icmpge C 38 dX12_violated_9 (by decide) h (fun _ h => ?_) (fun _ h => ?_)
  · refine v_sub [(1, .int x1)] [1] rfl ?_
    exact hex x1 u ((Option.some.inj h).symm ▸ g)
  · refine v_iload_n C 1 dX12_violated_12 rfl rfl ?_
    refine v_aload_n C 0 dX12_violated_13 rfl rfl ?_
    refine v_iload_n C 2 dX12_violated_14 rfl rfl ?_
    obtain ⟨y2, u3, h1, h⟩ := ob2_some h
    obtain ⟨hkd, h1⟩ := kd_some h1
    refine v_gol (rn_V C gcX12_223 (RX12, TX12, 33) rfl rfl (by decide) hkd (mX12_against h1) ⟨rfl, rfl⟩ rfl ⟨Nat.le_of_ble_eq_true rfl, Nat.le_of_ble_eq_true rfl⟩ (rest := [.int x1]) rfl (Nat.le_of_ble_eq_true rfl) ⟨Nat.le_of_ble_eq_true rfl, Nat.le_of_ble_eq_true rfl⟩ dX12_violated_15) ?_
    refine v_lconst C (0 : Int64) dX12_violated_18 (by decide) ?_
    refine v_lcmpeq C 29 dX12_violated_19 dX12_violated_20 (by decide) h (fun _ h => ?_) (fun _ h => ?_)
    · refine v_iconst C (0 : Int32) dX12_violated_29 (by decide) ?_
      refine v_ior C dX12_violated_30 ?_
      refine v_lti h (fun y4 h => ?_)
      refine v_istore_n C [(1, .int y4), (0, .ref (bs + a0)), (2, .int x2)] dX12_violated_31 rfl (by decide) rfl ?_
      refine v_iinc C 2 (x2 + (1 : Int32)) [(2, .int (x2 + (1 : Int32))), (1, .int y4), (0, .ref (bs + a0))] dX12_violated_32 rfl rfl (by decide) rfl ?_
      refine v_goto C 4 dX12_violated_35 (by decide) ?_
      refine v_sub [(0, .ref (bs + a0)), (1, .int y4), (2, .int (x2 + (1 : Int32)))] [2, 1, 0] rfl ?_
      exact hk y4 (x2 + (1 : Int32)) u3 _ h g
    · refine v_iconst C (1 : Int32) dX12_violated_23 (by decide) ?_
      refine v_iload_n C 2 dX12_violated_24 rfl rfl ?_
      refine v_ishl C dX12_violated_25 ?_
      refine v_goto C 30 dX12_violated_26 (by decide) ?_
      refine v_ior C dX12_violated_30 ?_
      refine v_lti h (fun y5 h => ?_)
      refine v_istore_n C [(1, .int y5), (0, .ref (bs + a0)), (2, .int x2)] dX12_violated_31 rfl (by decide) rfl ?_
      refine v_iinc C 2 (x2 + (1 : Int32)) [(2, .int (x2 + (1 : Int32))), (1, .int y5), (0, .ref (bs + a0))] dX12_violated_32 rfl rfl (by decide) rfl ?_
      refine v_goto C 4 dX12_violated_35 (by decide) ?_
      refine v_sub [(0, .ref (bs + a0)), (1, .int y5), (2, .int (x2 + (1 : Int32)))] [2, 1, 0] rfl ?_
      exact hk y5 (x2 + (1 : Int32)) u3 _ h g
set_option maxRecDepth 100000 in
set_option maxHeartbeats 4000000 in
theorem mX12_violated {l : Launch} {D : UD} {bs : Nat} {a0 : Nat} {u0 : UH} {r : Int32} {v : UH} (h : fX12_violated a0 u0 = some (r, v)) : Met l yX12_violated (wz yX12_violated cX12_violated 3 (some .int)) rmX12_violated (va_Pc [.ref (bs + a0)] (uIn D bs u0)) (uQi D bs u0 v r) 0 0 (uA bs u0) := by
  refine uMet (by decide) (Nat.le_of_ble_eq_true rfl) ?_
  intro X tw hX C hin
  have C : uCx X D bs tw cX12_violated 3 RX12 (some .int) := C
  have hin : X.2.2.2.2.2.2.2.1.name = "violated" := hin
  refine v_L [(0, .ref (bs + a0))] rfl ?_
  unfold fX12_violated at h
  refine v_iconst C (0 : Int32) dX12_violated_0 (by decide) ?_
  refine v_istore_n C [(1, .int (0 : Int32)), (0, .ref (bs + a0))] dX12_violated_1 rfl (by decide) rfl ?_
  refine v_iconst C (0 : Int32) dX12_violated_2 (by decide) ?_
  refine v_istore_n C [(2, .int (0 : Int32)), (1, .int (0 : Int32)), (0, .ref (bs + a0))] dX12_violated_3 rfl (by decide) rfl ?_
  refine v_sub [(0, .ref (bs + a0)), (1, .int (0 : Int32)), (2, .int (0 : Int32))] [2, 1, 0] rfl ?_
  refine it3_O (V := fun x1 x2 u' => VV X D bs u0 rmX12_violated 3 0 0 (MQ X.2.2.2.2.2.2.1 (uQi D bs u0 v r) X.2.2.2.2.2.1 X.2.2.2.1 0 0 (uA bs u0)) u' 4 [(0, .ref (bs + a0)), (1, .int x1), (2, .int x2)] []) h (fun k_ hk_ => wX12_violated_B4 C hin hk_ ?_ )
  intro z7 z8 h
  try dsimp only [Sum.elim_inl] at h
  refine v_iload_n C 0 dX12_violated_38 rfl rfl ?_
  exact v_iret C dX12_violated_39 (Prod.mk.inj (Option.some.inj h)).2 (Prod.mk.inj (Option.some.inj h)).1
set_option maxRecDepth 100000 in
set_option maxHeartbeats 4000000 in
theorem mX12_clearPolicies {l : Launch} {D : UD} {bs : Nat} {a0 : Nat} {u0 : UH} {r : Int32} {v : UH} (h : fX12_clearPolicies a0 u0 = some (r, v)) : Met l yX12_clearPolicies (wz yX12_clearPolicies cX12_clearPolicies 2 (some .int)) rmX12_clearPolicies (va_Pc [.ref (bs + a0)] (uIn D bs u0)) (uQi D bs u0 v r) 0 0 (uA bs u0) := by
  refine uMet (by decide) (Nat.le_of_ble_eq_true rfl) ?_
  intro X tw hX C hin
  have C : uCx X D bs tw cX12_clearPolicies 2 RX12 (some .int) := C
  have hin : X.2.2.2.2.2.2.2.1.name = "clearPolicies" := hin
  refine v_L [(0, .ref (bs + a0))] rfl ?_
  unfold fX12_clearPolicies at h
  refine v_aload_n C 0 dX12_clearPolicies_0 rfl rfl ?_
  refine v_getI C fdX12_88 dX12_clearPolicies_1 h (fun y1 h => ?_)
  refine v_istore_n C [(1, .int y1), (0, .ref (bs + a0))] dX12_clearPolicies_4 rfl (by decide) rfl ?_
  refine v_aload_n C 1 dX12_clearPolicies_5 rfl rfl ?_
  refine v_iconst C (0 : Int32) dX12_clearPolicies_6 (by decide) ?_
  refine v_putI C fdX12_88 (fun h => by cases h) dX12_clearPolicies_7 h (fun u2 h => ?_)
  refine v_iload_n C 0 dX12_clearPolicies_10 rfl rfl ?_
  exact v_iret C dX12_clearPolicies_11 (Prod.mk.inj (Option.some.inj h)).2 (Prod.mk.inj (Option.some.inj h)).1
set_option maxRecDepth 100000 in
set_option maxHeartbeats 4000000 in
theorem mX12_type {l : Launch} {D : UD} {bs : Nat} {a0 : Nat} {x1 : Int32} {u0 : UH} {r : Int32} {v : UH} (h : fX12_type a0 x1 u0 = some (r, v)) : Met l yX12_type (wz yX12_type cX12_type 2 (some .int)) rmX12_type (va_Pc [.ref (bs + a0), .int x1] (uIn D bs u0)) (uQi D bs u0 v r) 0 0 (uA bs u0) := by
  refine uMet (by decide) (Nat.le_of_ble_eq_true rfl) ?_
  intro X tw hX C hin
  have C : uCx X D bs tw cX12_type 2 RX12 (some .int) := C
  have hin : X.2.2.2.2.2.2.2.1.name = "type" := hin
  refine v_L [(0, .ref (bs + a0)), (1, .int x1)] rfl ?_
  unfold fX12_type at h
  refine v_aload_n C 0 dX12_type_0 rfl rfl ?_
  refine v_getI C fdX12_227 dX12_type_1 h (fun y1 h => ?_)
  refine v_bipush C (40 : Int32) dX12_type_4 (by decide) ?_
  refine v_icmpne C 12 dX12_type_6 (by decide) h (fun _ h => ?_) (fun _ h => ?_)
  · refine v_aload_n C 0 dX12_type_12 rfl rfl ?_
    refine v_getR C fdX12_60 dX12_type_13 h (fun b2 h => ?_)
    refine v_aload_n C 0 dX12_type_16 rfl rfl ?_
    refine v_getI C fdX12_227 dX12_type_17 h (fun y3 h => ?_)
    refine v_iload_n C 1 dX12_type_20 rfl rfl ?_
    refine v_stC C dX12_type_21 h (fun u4 h => ?_)
    refine v_aload_n C 0 dX12_type_22 rfl rfl ?_
    refine v_dup C dX12_type_23 rfl ?_
    refine v_getI C fdX12_227 dX12_type_24 h (fun y5 h => ?_)
    refine v_iconst C (1 : Int32) dX12_type_27 (by decide) ?_
    refine v_iadd C dX12_type_28 ?_
    refine v_putI C fdX12_227 (fun h => by cases h) dX12_type_29 h (fun u6 h => ?_)
    refine v_aload_n C 0 dX12_type_32 rfl rfl ?_
    refine v_getI C fdX12_227 dX12_type_33 h (fun y7 h => ?_)
    exact v_iret C dX12_type_36 (Prod.mk.inj (Option.some.inj h)).2 (Prod.mk.inj (Option.some.inj h)).1
  · refine v_bipush C (-5 : Int32) dX12_type_9 (by decide) ?_
    exact v_iret C dX12_type_11 (Prod.mk.inj (Option.some.inj h)).2 (Prod.mk.inj (Option.some.inj h)).1
set_option maxRecDepth 100000 in
set_option maxHeartbeats 4000000 in
theorem mX12_clearText {l : Launch} {D : UD} {bs : Nat} {a0 : Nat} {u0 : UH} {r : Int32} {v : UH} (h : fX12_clearText a0 u0 = some (r, v)) : Met l yX12_clearText (wz yX12_clearText cX12_clearText 2 (some .int)) rmX12_clearText (va_Pc [.ref (bs + a0)] (uIn D bs u0)) (uQi D bs u0 v r) 0 0 (uA bs u0) := by
  refine uMet (by decide) (Nat.le_of_ble_eq_true rfl) ?_
  intro X tw hX C hin
  have C : uCx X D bs tw cX12_clearText 2 RX12 (some .int) := C
  have hin : X.2.2.2.2.2.2.2.1.name = "clearText" := hin
  refine v_L [(0, .ref (bs + a0))] rfl ?_
  unfold fX12_clearText at h
  refine v_aload_n C 0 dX12_clearText_0 rfl rfl ?_
  refine v_getI C fdX12_227 dX12_clearText_1 h (fun y1 h => ?_)
  refine v_istore_n C [(1, .int y1), (0, .ref (bs + a0))] dX12_clearText_4 rfl (by decide) rfl ?_
  refine v_aload_n C 1 dX12_clearText_5 rfl rfl ?_
  refine v_iconst C (0 : Int32) dX12_clearText_6 (by decide) ?_
  refine v_putI C fdX12_227 (fun h => by cases h) dX12_clearText_7 h (fun u2 h => ?_)
  refine v_iload_n C 0 dX12_clearText_10 rfl rfl ?_
  exact v_iret C dX12_clearText_11 (Prod.mk.inj (Option.some.inj h)).2 (Prod.mk.inj (Option.some.inj h)).1
set_option maxRecDepth 100000 in
set_option maxHeartbeats 4000000 in
theorem mX12_isAt {l : Launch} {D : UD} {bs : Nat} {a0 : Nat} {x1 : Int32} {u0 : UH} {r : Int32} (h : fX12_isAt a0 x1 u0 = some r) : Met l yX12_isAt (wz yX12_isAt cX12_isAt 2 (some .boolean)) rmX12_isAt (va_Pc [.ref (bs + a0), .int x1] (uIn D bs u0)) (uQi D bs u0 u0 r) 0 0 (uA bs u0) := by
  refine uMet (by decide) (Nat.le_of_ble_eq_true rfl) ?_
  intro X tw hX C hin
  have C : uCx X D bs tw cX12_isAt 2 RX12 (some .boolean) := C
  have hin : X.2.2.2.2.2.2.2.1.name = "isAt" := hin
  refine v_L [(0, .ref (bs + a0)), (1, .int x1)] rfl ?_
  unfold fX12_isAt at h
  refine v_aload_n C 0 dX12_isAt_0 rfl rfl ?_
  refine v_getI C fdX12_230 dX12_isAt_1 h (fun y1 h => ?_)
  refine v_aload_n C 0 dX12_isAt_4 rfl rfl ?_
  refine v_getI C fdX12_227 dX12_isAt_5 h (fun y2 h => ?_)
  refine v_icmpge C 28 dX12_isAt_8 (by decide) h (fun _ h => ?_) (fun _ h => ?_)
  · refine v_iconst C (0 : Int32) dX12_isAt_28 (by decide) ?_
    exact v_zret C dX12_isAt_29 rfl (Option.some.inj h) rfl
  · refine v_aload_n C 0 dX12_isAt_11 rfl rfl ?_
    refine v_getR C fdX12_60 dX12_isAt_12 h (fun b3 h => ?_)
    refine v_aload_n C 0 dX12_isAt_15 rfl rfl ?_
    refine v_getI C fdX12_230 dX12_isAt_16 h (fun y4 h => ?_)
    refine v_ldC C dX12_isAt_19 h (fun y5 h => ?_)
    refine v_iload_n C 1 dX12_isAt_20 rfl rfl ?_
    refine v_icmpne C 28 dX12_isAt_21 (by decide) h (fun _ h => ?_) (fun _ h => ?_)
    · refine v_iconst C (0 : Int32) dX12_isAt_28 (by decide) ?_
      exact v_zret C dX12_isAt_29 rfl (Option.some.inj h) rfl
    · refine v_iconst C (1 : Int32) dX12_isAt_24 (by decide) ?_
      refine v_goto C 29 dX12_isAt_25 (by decide) ?_
      exact v_zret C dX12_isAt_29 rfl (Option.some.inj h) rfl
set_option maxRecDepth 100000 in
set_option maxHeartbeats 4000000 in
theorem wX12_expect_21 {X : UX} {D : UD} {bs tw : Nat} {u0 : UH} {v : UH} (C : uCx X D bs tw cX12_expect 2 RX12 none) (hin : X.2.2.2.2.2.2.2.1.name = "expect") {a0 : Nat} {s0 : Int32} {s1 : Nat} {u : UH} (h : fX12_expect_21 a0 s0 s1 u = some v) : VV X D bs u0 rmX12_expect 2 0 0 (MQ X.2.2.2.2.2.2.1 (uQv D bs u0 v) X.2.2.2.2.2.1 X.2.2.2.1 0 0 (uA bs u0)) u 21 [(0, .ref (bs + a0))] [.int s0, .ref (bs + s1)] := by
  unfold fX12_expect_21 at h
  refine v_putZ C fdX12_233 (fun h => by cases h) dX12_expect_21 h (fun u2 h => ?_)
  refine v_aload_n C 0 dX12_expect_24 rfl rfl ?_
  refine v_dup C dX12_expect_25 rfl ?_
  refine v_getI C fdX12_230 dX12_expect_26 h (fun y3 h => ?_)
  refine v_aload_n C 0 dX12_expect_29 rfl rfl ?_
  refine v_getI C fdX12_233 dX12_expect_30 h (fun y4 h => ?_)
  refine v_ifeq C 40 dX12_expect_33 (by decide) h (fun _ h => ?_) (fun _ h => ?_)
  · refine v_iconst C (0 : Int32) dX12_expect_40 (by decide) ?_
    refine v_iadd C dX12_expect_41 ?_
    refine v_putI C fdX12_230 (fun h => by cases h) dX12_expect_42 h (fun u5 h => ?_)
    exact v_vret C dX12_expect_45 (Option.some.inj h)
  · refine v_iconst C (1 : Int32) dX12_expect_36 (by decide) ?_
    refine v_goto C 41 dX12_expect_37 (by decide) ?_
    refine v_iadd C dX12_expect_41 ?_
    refine v_putI C fdX12_230 (fun h => by cases h) dX12_expect_42 h (fun u6 h => ?_)
    exact v_vret C dX12_expect_45 (Option.some.inj h)
set_option maxRecDepth 100000 in
set_option maxHeartbeats 4000000 in
theorem wX12_expect_20 {X : UX} {D : UD} {bs tw : Nat} {u0 : UH} {v : UH} (C : uCx X D bs tw cX12_expect 2 RX12 none) (hin : X.2.2.2.2.2.2.2.1.name = "expect") {a0 : Nat} {s0 : Nat} {u : UH} (h : fX12_expect_20 a0 s0 u = some v) : VV X D bs u0 rmX12_expect 2 0 0 (MQ X.2.2.2.2.2.2.1 (uQv D bs u0 v) X.2.2.2.2.2.1 X.2.2.2.1 0 0 (uA bs u0)) u 20 [(0, .ref (bs + a0))] [.ref (bs + s0)] := by
  unfold fX12_expect_20 at h
  refine v_iconst C (0 : Int32) dX12_expect_20 (by decide) ?_
  refine v_sub [(0, .ref (bs + a0))] [0] rfl ?_
  exact wX12_expect_21 C hin h
set_option maxRecDepth 100000 in
set_option maxHeartbeats 4000000 in
theorem mX12_expect {l : Launch} {D : UD} {bs : Nat} {a0 : Nat} {x1 : Int32} {u0 : UH} {v : UH} (h : fX12_expect a0 x1 u0 = some v) : Met l yX12_expect (wz yX12_expect cX12_expect 2 none) rmX12_expect (va_Pc [.ref (bs + a0), .int x1] (uIn D bs u0)) (uQv D bs u0 v) 0 0 (uA bs u0) := by
  refine uMet (by decide) (Nat.le_of_ble_eq_true rfl) ?_
  intro X tw hX C hin
  have C : uCx X D bs tw cX12_expect 2 RX12 none := C
  have hin : X.2.2.2.2.2.2.2.1.name = "expect" := hin
  refine v_L [(0, .ref (bs + a0)), (1, .int x1)] rfl ?_
  unfold fX12_expect at h
  refine v_aload_n C 0 dX12_expect_0 rfl rfl ?_
  refine v_aload_n C 0 dX12_expect_1 rfl rfl ?_
  refine v_getI C fdX12_233 dX12_expect_2 h (fun y1 h => ?_)
  refine v_ifeq C 20 dX12_expect_5 (by decide) h (fun _ h => ?_) (fun _ h => ?_)
  · refine v_sub [(0, .ref (bs + a0))] [0] rfl ?_
    exact wX12_expect_20 C hin h
  · refine v_aload_n C 0 dX12_expect_8 rfl rfl ?_
    refine v_iload_n C 1 dX12_expect_9 rfl rfl ?_
    obtain ⟨y7, h1, h⟩ := ob_some h
    obtain ⟨hkd, h1⟩ := kd_some h1
    refine v_goi (rn_V C gcX12_237 (RX12, TX12, 33) rfl rfl (by decide) hkd (mX12_isAt h1) ⟨rfl, rfl⟩ rfl ⟨Nat.le_of_ble_eq_true rfl, Nat.le_of_ble_eq_true rfl⟩ (rest := [.ref (bs + a0)]) rfl (Nat.le_of_ble_eq_true rfl) ⟨Nat.le_of_ble_eq_true rfl, Nat.le_of_ble_eq_true rfl⟩ dX12_expect_10) ?_
    refine v_ifeq C 20 dX12_expect_13 (by decide) h (fun _ h => ?_) (fun _ h => ?_)
    · refine v_sub [(0, .ref (bs + a0))] [0] rfl ?_
      exact wX12_expect_20 C hin h
    · refine v_iconst C (1 : Int32) dX12_expect_16 (by decide) ?_
      refine v_goto C 21 dX12_expect_17 (by decide) ?_
      refine v_sub [(0, .ref (bs + a0))] [0] rfl ?_
      exact wX12_expect_21 C hin h
set_option maxRecDepth 100000 in
set_option maxHeartbeats 4000000 in
theorem wX12_readPorts_B2 {X : UX} {D : UD} {bs tw : Nat} {u0 : UH} {r : Int32} {v : UH} (C : uCx X D bs tw cX12_readPorts 2 RX12 (some .int)) (hin : X.2.2.2.2.2.2.2.1.name = "readPorts") {a0 : Nat}  {G : (Int32 × UH) → Prop} {k : Int32 → UH → Option (Int32 × UH)} (hk : ∀ (x1 : Int32) (u' : UH) e, k x1 u' = some e → G e → VV X D bs u0 rmX12_readPorts 2 0 0 (MQ X.2.2.2.2.2.2.1 (uQi D bs u0 v r) X.2.2.2.2.2.1 X.2.2.2.1 0 0 (uA bs u0)) u' 2 [(0, .ref (bs + a0)), (1, .int x1)] []) (hex : ∀ (x1 : Int32) (u' : UH), G (x1, u') → VV X D bs u0 rmX12_readPorts 2 0 0 (MQ X.2.2.2.2.2.2.1 (uQi D bs u0 v r) X.2.2.2.2.2.1 X.2.2.2.1 0 0 (uA bs u0)) u' 87 [(0, .ref (bs + a0)), (1, .int x1)] [])  : ∀ (x1 : Int32) (u : UH) e, fX12_readPorts_B2 a0  k x1 u = some e → G e → VV X D bs u0 rmX12_readPorts 2 0 0 (MQ X.2.2.2.2.2.2.1 (uQi D bs u0 v r) X.2.2.2.2.2.1 X.2.2.2.1 0 0 (uA bs u0)) u 2 [(0, .ref (bs + a0)), (1, .int x1)] [] := by
  intro x1 u e h g
  unfold fX12_readPorts_B2 at h
  refine v_aload_n C 0 dX12_readPorts_2 rfl rfl ?_
  refine v_getI C fdX12_233 dX12_readPorts_3 h (fun y1 h => ?_)
  refine v_ifeq C 87 dX12_readPorts_6 (by decide) h (fun _ h => ?_) (fun _ h => ?_)
  · refine v_sub [(0, .ref (bs + a0)), (1, .int x1)] [0, 1] rfl ?_
    exact hex x1 u ((Option.some.inj h).symm ▸ g)
  · refine v_aload_n C 0 dX12_readPorts_9 rfl rfl ?_
    refine v_getI C fdX12_230 dX12_readPorts_10 h (fun y2 h => ?_)
    refine v_aload_n C 0 dX12_readPorts_13 rfl rfl ?_
    refine v_getI C fdX12_227 dX12_readPorts_14 h (fun y3 h => ?_)
    refine v_icmpge C 87 dX12_readPorts_17 (by decide) h (fun _ h => ?_) (fun _ h => ?_)
    · refine v_sub [(0, .ref (bs + a0)), (1, .int x1)] [0, 1] rfl ?_
      exact hex x1 u ((Option.some.inj h).symm ▸ g)
    · refine v_aload_n C 0 dX12_readPorts_20 rfl rfl ?_
      refine v_getR C fdX12_60 dX12_readPorts_21 h (fun b4 h => ?_)
      refine v_aload_n C 0 dX12_readPorts_24 rfl rfl ?_
      refine v_getI C fdX12_230 dX12_readPorts_25 h (fun y5 h => ?_)
      refine v_ldC C dX12_readPorts_28 h (fun y6 h => ?_)
      refine v_bipush C (48 : Int32) dX12_readPorts_29 (by decide) ?_
      refine v_bipush C (51 : Int32) dX12_readPorts_31 (by decide) ?_
      obtain ⟨y7, h1, h⟩ := ob_some h
      refine v_goi (rn_S C gcX12_94 (mX12_in h1) ⟨rfl, rfl⟩ rfl ⟨Nat.le_of_ble_eq_true rfl, Nat.le_of_ble_eq_true rfl⟩ (rest := []) rfl (Nat.le_of_ble_eq_true rfl) ⟨Nat.le_of_ble_eq_true rfl, Nat.le_of_ble_eq_true rfl⟩ dX12_readPorts_33) ?_
      refine v_ifeq C 87 dX12_readPorts_36 (by decide) h (fun _ h => ?_) (fun _ h => ?_)
      · refine v_sub [(0, .ref (bs + a0)), (1, .int x1)] [0, 1] rfl ?_
        exact hex x1 u ((Option.some.inj h).symm ▸ g)
      · refine v_iload_n C 1 dX12_readPorts_39 rfl rfl ?_
        refine v_iconst C (1 : Int32) dX12_readPorts_40 (by decide) ?_
        refine v_aload_n C 0 dX12_readPorts_41 rfl rfl ?_
        refine v_getR C fdX12_60 dX12_readPorts_42 h (fun b8 h => ?_)
        refine v_aload_n C 0 dX12_readPorts_45 rfl rfl ?_
        refine v_getI C fdX12_230 dX12_readPorts_46 h (fun y9 h => ?_)
        refine v_ldC C dX12_readPorts_49 h (fun y10 h => ?_)
        refine v_bipush C (48 : Int32) dX12_readPorts_50 (by decide) ?_
        refine v_isub C dX12_readPorts_52 ?_
        refine v_ishl C dX12_readPorts_53 ?_
        refine v_icmpge C 87 dX12_readPorts_54 (by decide) h (fun _ h => ?_) (fun _ h => ?_)
        · refine v_sub [(0, .ref (bs + a0)), (1, .int x1)] [0, 1] rfl ?_
          exact hex x1 u ((Option.some.inj h).symm ▸ g)
        · refine v_iload_n C 1 dX12_readPorts_57 rfl rfl ?_
          refine v_iconst C (1 : Int32) dX12_readPorts_58 (by decide) ?_
          refine v_aload_n C 0 dX12_readPorts_59 rfl rfl ?_
          refine v_getR C fdX12_60 dX12_readPorts_60 h (fun b11 h => ?_)
          refine v_aload_n C 0 dX12_readPorts_63 rfl rfl ?_
          refine v_getI C fdX12_230 dX12_readPorts_64 h (fun y12 h => ?_)
          refine v_ldC C dX12_readPorts_67 h (fun y13 h => ?_)
          refine v_bipush C (48 : Int32) dX12_readPorts_68 (by decide) ?_
          refine v_isub C dX12_readPorts_70 ?_
          refine v_ishl C dX12_readPorts_71 ?_
          refine v_ior C dX12_readPorts_72 ?_
          refine v_lti h (fun y14 h => ?_)
          refine v_istore_n C [(1, .int y14), (0, .ref (bs + a0))] dX12_readPorts_73 rfl (by decide) rfl ?_
          refine v_aload_n C 1 dX12_readPorts_74 rfl rfl ?_
          refine v_dup C dX12_readPorts_75 rfl ?_
          refine v_getI C fdX12_230 dX12_readPorts_76 h (fun y15 h => ?_)
          refine v_iconst C (1 : Int32) dX12_readPorts_79 (by decide) ?_
          refine v_iadd C dX12_readPorts_80 ?_
          refine v_putI C fdX12_230 (fun h => by cases h) dX12_readPorts_81 h (fun u16 h => ?_)
          refine v_goto C 2 dX12_readPorts_84 (by decide) ?_
          refine v_sub [(0, .ref (bs + a0)), (1, .int y14)] [1, 0] rfl ?_
          exact hk y14 u16 _ h g
set_option maxRecDepth 100000 in
set_option maxHeartbeats 4000000 in
theorem wX12_readPorts_87 {X : UX} {D : UD} {bs tw : Nat} {u0 : UH} {r : Int32} {v : UH} (C : uCx X D bs tw cX12_readPorts 2 RX12 (some .int)) (hin : X.2.2.2.2.2.2.2.1.name = "readPorts") {a0 : Nat} {x1 : Int32} {u : UH} (h : fX12_readPorts_87 a0 x1 u = some (r, v)) : VV X D bs u0 rmX12_readPorts 2 0 0 (MQ X.2.2.2.2.2.2.1 (uQi D bs u0 v r) X.2.2.2.2.2.1 X.2.2.2.1 0 0 (uA bs u0)) u 87 [(0, .ref (bs + a0)), (1, .int x1)] [] := by
  unfold fX12_readPorts_87 at h
  refine v_aload_n C 0 dX12_readPorts_87 rfl rfl ?_
  refine v_aload_n C 0 dX12_readPorts_88 rfl rfl ?_
  refine v_getI C fdX12_233 dX12_readPorts_89 h (fun y20 h => ?_)
  refine v_ifeq C 103 dX12_readPorts_92 (by decide) h (fun _ h => ?_) (fun _ h => ?_)
  · refine v_iconst C (0 : Int32) dX12_readPorts_103 (by decide) ?_
    refine v_putZ C fdX12_233 (fun h => by cases h) dX12_readPorts_104 h (fun u21 h => ?_)
    refine v_iload_n C 1 dX12_readPorts_107 rfl rfl ?_
    exact v_iret C dX12_readPorts_108 (Prod.mk.inj (Option.some.inj h)).2 (Prod.mk.inj (Option.some.inj h)).1
  · refine v_iload_n C 1 dX12_readPorts_95 rfl rfl ?_
    refine v_ifeq C 103 dX12_readPorts_96 (by decide) h (fun _ h => ?_) (fun _ h => ?_)
    · refine v_iconst C (0 : Int32) dX12_readPorts_103 (by decide) ?_
      refine v_putZ C fdX12_233 (fun h => by cases h) dX12_readPorts_104 h (fun u22 h => ?_)
      refine v_iload_n C 1 dX12_readPorts_107 rfl rfl ?_
      exact v_iret C dX12_readPorts_108 (Prod.mk.inj (Option.some.inj h)).2 (Prod.mk.inj (Option.some.inj h)).1
    · refine v_iconst C (1 : Int32) dX12_readPorts_99 (by decide) ?_
      refine v_goto C 104 dX12_readPorts_100 (by decide) ?_
      refine v_putZ C fdX12_233 (fun h => by cases h) dX12_readPorts_104 h (fun u23 h => ?_)
      refine v_iload_n C 1 dX12_readPorts_107 rfl rfl ?_
      exact v_iret C dX12_readPorts_108 (Prod.mk.inj (Option.some.inj h)).2 (Prod.mk.inj (Option.some.inj h)).1
set_option maxRecDepth 100000 in
set_option maxHeartbeats 4000000 in
theorem mX12_readPorts {l : Launch} {D : UD} {bs : Nat} {a0 : Nat} {u0 : UH} {r : Int32} {v : UH} (h : fX12_readPorts a0 u0 = some (r, v)) : Met l yX12_readPorts (wz yX12_readPorts cX12_readPorts 2 (some .int)) rmX12_readPorts (va_Pc [.ref (bs + a0)] (uIn D bs u0)) (uQi D bs u0 v r) 0 0 (uA bs u0) := by
  refine uMet (by decide) (Nat.le_of_ble_eq_true rfl) ?_
  intro X tw hX C hin
  have C : uCx X D bs tw cX12_readPorts 2 RX12 (some .int) := C
  have hin : X.2.2.2.2.2.2.2.1.name = "readPorts" := hin
  refine v_L [(0, .ref (bs + a0))] rfl ?_
  unfold fX12_readPorts at h
  refine v_iconst C (0 : Int32) dX12_readPorts_0 (by decide) ?_
  refine v_istore_n C [(1, .int (0 : Int32)), (0, .ref (bs + a0))] dX12_readPorts_1 rfl (by decide) rfl ?_
  refine v_sub [(0, .ref (bs + a0)), (1, .int (0 : Int32))] [1, 0] rfl ?_
  refine it2_O (V := fun x1 u' => VV X D bs u0 rmX12_readPorts 2 0 0 (MQ X.2.2.2.2.2.2.1 (uQi D bs u0 v r) X.2.2.2.2.2.1 X.2.2.2.1 0 0 (uA bs u0)) u' 2 [(0, .ref (bs + a0)), (1, .int x1)] []) h (fun k_ hk_ => wX12_readPorts_B2 C hin hk_ ?_ )
  intro z18 z19 h
  try dsimp only [Sum.elim_inl] at h
  refine v_sub [(0, .ref (bs + a0)), (1, .int z18)] [0, 1] rfl ?_
  exact wX12_readPorts_87 C hin h
set_option maxRecDepth 100000 in
set_option maxHeartbeats 4000000 in
theorem wX12_readPattern_124 {X : UX} {D : UD} {bs tw : Nat} {u0 : UH} {v : UH} (C : uCx X D bs tw cX12_readPattern 2 RX12 none) (hin : X.2.2.2.2.2.2.2.1.name = "readPattern") {a0 : Nat}  {G : UH → Prop} {k : Int32 → UH → Option UH} (hk : ∀ (x1 : Int32) (u' : UH) e, k x1 u' = some e → G e → VV X D bs u0 rmX12_readPattern 2 0 0 (MQ X.2.2.2.2.2.2.1 (uQv D bs u0 v) X.2.2.2.2.2.1 X.2.2.2.1 0 0 (uA bs u0)) u' 17 [(0, .ref (bs + a0)), (1, .int x1)] []) (hex : ∀  (u' : UH), G u' → VV X D bs u0 rmX12_readPattern 2 0 0 (MQ X.2.2.2.2.2.2.1 (uQv D bs u0 v) X.2.2.2.2.2.1 X.2.2.2.1 0 0 (uA bs u0)) u' 155 [] [])  {x1 : Int32} {s0 : Int32} {s1 : Int32} {s2 : Nat} {u : UH} {e : UH} (h : fX12_readPattern_124 k a0 x1 s0 s1 s2 u = some e) (g : G e) : VV X D bs u0 rmX12_readPattern 2 0 0 (MQ X.2.2.2.2.2.2.1 (uQv D bs u0 v) X.2.2.2.2.2.1 X.2.2.2.1 0 0 (uA bs u0)) u 124 [(0, .ref (bs + a0)), (1, .int x1)] [.int s0, .int s1, .ref (bs + s2)] := by
  unfold fX12_readPattern_124 at h
  refine v_ior C dX12_readPattern_124 ?_
  refine v_putI C fdX12_244 (fun h => by cases h) dX12_readPattern_125 h (fun u13 h => ?_)
  refine v_aload_n C 0 dX12_readPattern_128 rfl rfl ?_
  refine v_dup C dX12_readPattern_129 rfl ?_
  refine v_getI C fdX12_230 dX12_readPattern_130 h (fun y14 h => ?_)
  refine v_aload_n C 0 dX12_readPattern_133 rfl rfl ?_
  refine v_getI C fdX12_233 dX12_readPattern_134 h (fun y15 h => ?_)
  refine v_ifeq C 144 dX12_readPattern_137 (by decide) h (fun _ h => ?_) (fun _ h => ?_)
  · refine v_iconst C (0 : Int32) dX12_readPattern_144 (by decide) ?_
    refine v_iadd C dX12_readPattern_145 ?_
    refine v_putI C fdX12_230 (fun h => by cases h) dX12_readPattern_146 h (fun u16 h => ?_)
    refine v_iinc C 1 (x1 + (-1 : Int32)) [(1, .int (x1 + (-1 : Int32))), (0, .ref (bs + a0))] dX12_readPattern_149 rfl rfl (by decide) rfl ?_
    refine v_goto C 17 dX12_readPattern_152 (by decide) ?_
    refine v_sub [(0, .ref (bs + a0)), (1, .int (x1 + (-1 : Int32)))] [1, 0] rfl ?_
    exact hk (x1 + (-1 : Int32)) u16 _ h g
  · refine v_iconst C (1 : Int32) dX12_readPattern_140 (by decide) ?_
    refine v_goto C 145 dX12_readPattern_141 (by decide) ?_
    refine v_iadd C dX12_readPattern_145 ?_
    refine v_putI C fdX12_230 (fun h => by cases h) dX12_readPattern_146 h (fun u17 h => ?_)
    refine v_iinc C 1 (x1 + (-1 : Int32)) [(1, .int (x1 + (-1 : Int32))), (0, .ref (bs + a0))] dX12_readPattern_149 rfl rfl (by decide) rfl ?_
    refine v_goto C 17 dX12_readPattern_152 (by decide) ?_
    refine v_sub [(0, .ref (bs + a0)), (1, .int (x1 + (-1 : Int32)))] [1, 0] rfl ?_
    exact hk (x1 + (-1 : Int32)) u17 _ h g
set_option maxRecDepth 100000 in
set_option maxHeartbeats 4000000 in
theorem wX12_readPattern_123 {X : UX} {D : UD} {bs tw : Nat} {u0 : UH} {v : UH} (C : uCx X D bs tw cX12_readPattern 2 RX12 none) (hin : X.2.2.2.2.2.2.2.1.name = "readPattern") {a0 : Nat}  {G : UH → Prop} {k : Int32 → UH → Option UH} (hk : ∀ (x1 : Int32) (u' : UH) e, k x1 u' = some e → G e → VV X D bs u0 rmX12_readPattern 2 0 0 (MQ X.2.2.2.2.2.2.1 (uQv D bs u0 v) X.2.2.2.2.2.1 X.2.2.2.1 0 0 (uA bs u0)) u' 17 [(0, .ref (bs + a0)), (1, .int x1)] []) (hex : ∀  (u' : UH), G u' → VV X D bs u0 rmX12_readPattern 2 0 0 (MQ X.2.2.2.2.2.2.1 (uQv D bs u0 v) X.2.2.2.2.2.1 X.2.2.2.1 0 0 (uA bs u0)) u' 155 [] [])  {x1 : Int32} {s0 : Int32} {s1 : Nat} {u : UH} {e : UH} (h : fX12_readPattern_123 k a0 x1 s0 s1 u = some e) (g : G e) : VV X D bs u0 rmX12_readPattern 2 0 0 (MQ X.2.2.2.2.2.2.1 (uQv D bs u0 v) X.2.2.2.2.2.1 X.2.2.2.1 0 0 (uA bs u0)) u 123 [(0, .ref (bs + a0)), (1, .int x1)] [.int s0, .ref (bs + s1)] := by
  unfold fX12_readPattern_123 at h
  refine v_iconst C (0 : Int32) dX12_readPattern_123 (by decide) ?_
  refine v_sub [(0, .ref (bs + a0)), (1, .int x1)] [0, 1] rfl ?_
  exact wX12_readPattern_124 C hin hk hex  h g
set_option maxRecDepth 100000 in
set_option maxHeartbeats 4000000 in
theorem wX12_readPattern_92 {X : UX} {D : UD} {bs tw : Nat} {u0 : UH} {v : UH} (C : uCx X D bs tw cX12_readPattern 2 RX12 none) (hin : X.2.2.2.2.2.2.2.1.name = "readPattern") {a0 : Nat}  {G : UH → Prop} {k : Int32 → UH → Option UH} (hk : ∀ (x1 : Int32) (u' : UH) e, k x1 u' = some e → G e → VV X D bs u0 rmX12_readPattern 2 0 0 (MQ X.2.2.2.2.2.2.1 (uQv D bs u0 v) X.2.2.2.2.2.1 X.2.2.2.1 0 0 (uA bs u0)) u' 17 [(0, .ref (bs + a0)), (1, .int x1)] []) (hex : ∀  (u' : UH), G u' → VV X D bs u0 rmX12_readPattern 2 0 0 (MQ X.2.2.2.2.2.2.1 (uQv D bs u0 v) X.2.2.2.2.2.1 X.2.2.2.1 0 0 (uA bs u0)) u' 155 [] [])  {x1 : Int32} {s0 : Int32} {s1 : Int32} {s2 : Nat} {u : UH} {e : UH} (h : fX12_readPattern_92 k a0 x1 s0 s1 s2 u = some e) (g : G e) : VV X D bs u0 rmX12_readPattern 2 0 0 (MQ X.2.2.2.2.2.2.1 (uQv D bs u0 v) X.2.2.2.2.2.1 X.2.2.2.1 0 0 (uA bs u0)) u 92 [(0, .ref (bs + a0)), (1, .int x1)] [.int s0, .int s1, .ref (bs + s2)] := by
  unfold fX12_readPattern_92 at h
  refine v_ior C dX12_readPattern_92 ?_
  refine v_putI C fdX12_241 (fun h => by cases h) dX12_readPattern_93 h (fun u10 h => ?_)
  refine v_aload_n C 0 dX12_readPattern_96 rfl rfl ?_
  refine v_dup C dX12_readPattern_97 rfl ?_
  refine v_getI C fdX12_244 dX12_readPattern_98 h (fun y11 h => ?_)
  refine v_aload_n C 0 dX12_readPattern_101 rfl rfl ?_
  refine v_getI C fdX12_233 dX12_readPattern_102 h (fun y12 h => ?_)
  refine v_ifeq C 123 dX12_readPattern_105 (by decide) h (fun _ h => ?_) (fun _ h => ?_)
  · refine v_sub [(0, .ref (bs + a0)), (1, .int x1)] [0, 1] rfl ?_
    exact wX12_readPattern_123 C hin hk hex  h g
  · refine v_aload_n C 0 dX12_readPattern_108 rfl rfl ?_
    refine v_bipush C (49 : Int32) dX12_readPattern_109 (by decide) ?_
    obtain ⟨y18, h1, h⟩ := ob_some h
    obtain ⟨hkd, h1⟩ := kd_some h1
    refine v_goi (rn_V C gcX12_237 (RX12, TX12, 33) rfl rfl (by decide) hkd (mX12_isAt h1) ⟨rfl, rfl⟩ rfl ⟨Nat.le_of_ble_eq_true rfl, Nat.le_of_ble_eq_true rfl⟩ (rest := [.int y11, .ref (bs + a0)]) rfl (Nat.le_of_ble_eq_true rfl) ⟨Nat.le_of_ble_eq_true rfl, Nat.le_of_ble_eq_true rfl⟩ dX12_readPattern_111) ?_
    refine v_ifeq C 123 dX12_readPattern_114 (by decide) h (fun _ h => ?_) (fun _ h => ?_)
    · refine v_sub [(0, .ref (bs + a0)), (1, .int x1)] [0, 1] rfl ?_
      exact wX12_readPattern_123 C hin hk hex  h g
    · refine v_iconst C (1 : Int32) dX12_readPattern_117 (by decide) ?_
      refine v_iload_n C 1 dX12_readPattern_118 rfl rfl ?_
      refine v_ishl C dX12_readPattern_119 ?_
      refine v_goto C 124 dX12_readPattern_120 (by decide) ?_
      refine v_sub [(0, .ref (bs + a0)), (1, .int x1)] [0, 1] rfl ?_
      exact wX12_readPattern_124 C hin hk hex  h g
set_option maxRecDepth 100000 in
set_option maxHeartbeats 4000000 in
theorem wX12_readPattern_91 {X : UX} {D : UD} {bs tw : Nat} {u0 : UH} {v : UH} (C : uCx X D bs tw cX12_readPattern 2 RX12 none) (hin : X.2.2.2.2.2.2.2.1.name = "readPattern") {a0 : Nat}  {G : UH → Prop} {k : Int32 → UH → Option UH} (hk : ∀ (x1 : Int32) (u' : UH) e, k x1 u' = some e → G e → VV X D bs u0 rmX12_readPattern 2 0 0 (MQ X.2.2.2.2.2.2.1 (uQv D bs u0 v) X.2.2.2.2.2.1 X.2.2.2.1 0 0 (uA bs u0)) u' 17 [(0, .ref (bs + a0)), (1, .int x1)] []) (hex : ∀  (u' : UH), G u' → VV X D bs u0 rmX12_readPattern 2 0 0 (MQ X.2.2.2.2.2.2.1 (uQv D bs u0 v) X.2.2.2.2.2.1 X.2.2.2.1 0 0 (uA bs u0)) u' 155 [] [])  {x1 : Int32} {s0 : Int32} {s1 : Nat} {u : UH} {e : UH} (h : fX12_readPattern_91 k a0 x1 s0 s1 u = some e) (g : G e) : VV X D bs u0 rmX12_readPattern 2 0 0 (MQ X.2.2.2.2.2.2.1 (uQv D bs u0 v) X.2.2.2.2.2.1 X.2.2.2.1 0 0 (uA bs u0)) u 91 [(0, .ref (bs + a0)), (1, .int x1)] [.int s0, .ref (bs + s1)] := by
  unfold fX12_readPattern_91 at h
  refine v_iconst C (0 : Int32) dX12_readPattern_91 (by decide) ?_
  refine v_sub [(0, .ref (bs + a0)), (1, .int x1)] [0, 1] rfl ?_
  exact wX12_readPattern_92 C hin hk hex  h g
set_option maxRecDepth 100000 in
set_option maxHeartbeats 4000000 in
theorem wX12_readPattern_61 {X : UX} {D : UD} {bs tw : Nat} {u0 : UH} {v : UH} (C : uCx X D bs tw cX12_readPattern 2 RX12 none) (hin : X.2.2.2.2.2.2.2.1.name = "readPattern") {a0 : Nat}  {G : UH → Prop} {k : Int32 → UH → Option UH} (hk : ∀ (x1 : Int32) (u' : UH) e, k x1 u' = some e → G e → VV X D bs u0 rmX12_readPattern 2 0 0 (MQ X.2.2.2.2.2.2.1 (uQv D bs u0 v) X.2.2.2.2.2.1 X.2.2.2.1 0 0 (uA bs u0)) u' 17 [(0, .ref (bs + a0)), (1, .int x1)] []) (hex : ∀  (u' : UH), G u' → VV X D bs u0 rmX12_readPattern 2 0 0 (MQ X.2.2.2.2.2.2.1 (uQv D bs u0 v) X.2.2.2.2.2.1 X.2.2.2.1 0 0 (uA bs u0)) u' 155 [] [])  {x1 : Int32} {s0 : Int32} {s1 : Nat} {u : UH} {e : UH} (h : fX12_readPattern_61 k a0 x1 s0 s1 u = some e) (g : G e) : VV X D bs u0 rmX12_readPattern 2 0 0 (MQ X.2.2.2.2.2.2.1 (uQv D bs u0 v) X.2.2.2.2.2.1 X.2.2.2.1 0 0 (uA bs u0)) u 61 [(0, .ref (bs + a0)), (1, .int x1)] [.int s0, .ref (bs + s1)] := by
  unfold fX12_readPattern_61 at h
  refine v_putZ C fdX12_233 (fun h => by cases h) dX12_readPattern_61 h (fun u7 h => ?_)
  refine v_aload_n C 0 dX12_readPattern_64 rfl rfl ?_
  refine v_dup C dX12_readPattern_65 rfl ?_
  refine v_getI C fdX12_241 dX12_readPattern_66 h (fun y8 h => ?_)
  refine v_aload_n C 0 dX12_readPattern_69 rfl rfl ?_
  refine v_getI C fdX12_233 dX12_readPattern_70 h (fun y9 h => ?_)
  refine v_ifeq C 91 dX12_readPattern_73 (by decide) h (fun _ h => ?_) (fun _ h => ?_)
  · refine v_sub [(0, .ref (bs + a0)), (1, .int x1)] [0, 1] rfl ?_
    exact wX12_readPattern_91 C hin hk hex  h g
  · refine v_aload_n C 0 dX12_readPattern_76 rfl rfl ?_
    refine v_bipush C (42 : Int32) dX12_readPattern_77 (by decide) ?_
    obtain ⟨y19, h1, h⟩ := ob_some h
    obtain ⟨hkd, h1⟩ := kd_some h1
    refine v_goi (rn_V C gcX12_237 (RX12, TX12, 33) rfl rfl (by decide) hkd (mX12_isAt h1) ⟨rfl, rfl⟩ rfl ⟨Nat.le_of_ble_eq_true rfl, Nat.le_of_ble_eq_true rfl⟩ (rest := [.int y8, .ref (bs + a0)]) rfl (Nat.le_of_ble_eq_true rfl) ⟨Nat.le_of_ble_eq_true rfl, Nat.le_of_ble_eq_true rfl⟩ dX12_readPattern_79) ?_
    refine v_ifne C 91 dX12_readPattern_82 (by decide) h (fun _ h => ?_) (fun _ h => ?_)
    · refine v_sub [(0, .ref (bs + a0)), (1, .int x1)] [0, 1] rfl ?_
      exact wX12_readPattern_91 C hin hk hex  h g
    · refine v_iconst C (1 : Int32) dX12_readPattern_85 (by decide) ?_
      refine v_iload_n C 1 dX12_readPattern_86 rfl rfl ?_
      refine v_ishl C dX12_readPattern_87 ?_
      refine v_goto C 92 dX12_readPattern_88 (by decide) ?_
      refine v_sub [(0, .ref (bs + a0)), (1, .int x1)] [0, 1] rfl ?_
      exact wX12_readPattern_92 C hin hk hex  h g
set_option maxRecDepth 100000 in
set_option maxHeartbeats 4000000 in
theorem wX12_readPattern_56 {X : UX} {D : UD} {bs tw : Nat} {u0 : UH} {v : UH} (C : uCx X D bs tw cX12_readPattern 2 RX12 none) (hin : X.2.2.2.2.2.2.2.1.name = "readPattern") {a0 : Nat}  {G : UH → Prop} {k : Int32 → UH → Option UH} (hk : ∀ (x1 : Int32) (u' : UH) e, k x1 u' = some e → G e → VV X D bs u0 rmX12_readPattern 2 0 0 (MQ X.2.2.2.2.2.2.1 (uQv D bs u0 v) X.2.2.2.2.2.1 X.2.2.2.1 0 0 (uA bs u0)) u' 17 [(0, .ref (bs + a0)), (1, .int x1)] []) (hex : ∀  (u' : UH), G u' → VV X D bs u0 rmX12_readPattern 2 0 0 (MQ X.2.2.2.2.2.2.1 (uQv D bs u0 v) X.2.2.2.2.2.1 X.2.2.2.1 0 0 (uA bs u0)) u' 155 [] [])  {x1 : Int32} {s0 : Nat} {u : UH} {e : UH} (h : fX12_readPattern_56 k a0 x1 s0 u = some e) (g : G e) : VV X D bs u0 rmX12_readPattern 2 0 0 (MQ X.2.2.2.2.2.2.1 (uQv D bs u0 v) X.2.2.2.2.2.1 X.2.2.2.1 0 0 (uA bs u0)) u 56 [(0, .ref (bs + a0)), (1, .int x1)] [.ref (bs + s0)] := by
  unfold fX12_readPattern_56 at h
  refine v_iconst C (1 : Int32) dX12_readPattern_56 (by decide) ?_
  refine v_goto C 61 dX12_readPattern_57 (by decide) ?_
  refine v_sub [(0, .ref (bs + a0)), (1, .int x1)] [0, 1] rfl ?_
  exact wX12_readPattern_61 C hin hk hex  h g
set_option maxRecDepth 100000 in
set_option maxHeartbeats 4000000 in
theorem wX12_readPattern_B17 {X : UX} {D : UD} {bs tw : Nat} {u0 : UH} {v : UH} (C : uCx X D bs tw cX12_readPattern 2 RX12 none) (hin : X.2.2.2.2.2.2.2.1.name = "readPattern") {a0 : Nat}  {G : UH → Prop} {k : Int32 → UH → Option UH} (hk : ∀ (x1 : Int32) (u' : UH) e, k x1 u' = some e → G e → VV X D bs u0 rmX12_readPattern 2 0 0 (MQ X.2.2.2.2.2.2.1 (uQv D bs u0 v) X.2.2.2.2.2.1 X.2.2.2.1 0 0 (uA bs u0)) u' 17 [(0, .ref (bs + a0)), (1, .int x1)] []) (hex : ∀  (u' : UH), G u' → VV X D bs u0 rmX12_readPattern 2 0 0 (MQ X.2.2.2.2.2.2.1 (uQv D bs u0 v) X.2.2.2.2.2.1 X.2.2.2.1 0 0 (uA bs u0)) u' 155 [] [])  : ∀ (x1 : Int32) (u : UH) e, fX12_readPattern_B17 a0  k x1 u = some e → G e → VV X D bs u0 rmX12_readPattern 2 0 0 (MQ X.2.2.2.2.2.2.1 (uQv D bs u0 v) X.2.2.2.2.2.1 X.2.2.2.1 0 0 (uA bs u0)) u 17 [(0, .ref (bs + a0)), (1, .int x1)] [] := by
  intro x1 u e h g
  unfold fX12_readPattern_B17 at h
  refine v_iload_n C 1 dX12_readPattern_17 rfl rfl ?_
  refine v_iflt C 155 dX12_readPattern_18 (by decide) h (fun _ h => ?_) (fun _ h => ?_)
  · refine v_sub [] [] rfl ?_
    exact hex u ((Option.some.inj h).symm ▸ g)
  · refine v_aload_n C 0 dX12_readPattern_21 rfl rfl ?_
    refine v_getI C fdX12_233 dX12_readPattern_22 h (fun y5 h => ?_)
    refine v_ifeq C 155 dX12_readPattern_25 (by decide) h (fun _ h => ?_) (fun _ h => ?_)
    · refine v_sub [] [] rfl ?_
      exact hex u ((Option.some.inj h).symm ▸ g)
    · refine v_aload_n C 0 dX12_readPattern_28 rfl rfl ?_
      refine v_aload_n C 0 dX12_readPattern_29 rfl rfl ?_
      refine v_bipush C (48 : Int32) dX12_readPattern_30 (by decide) ?_
      obtain ⟨y6, h1, h⟩ := ob_some h
      obtain ⟨hkd, h1⟩ := kd_some h1
      refine v_goi (rn_V C gcX12_237 (RX12, TX12, 33) rfl rfl (by decide) hkd (mX12_isAt h1) ⟨rfl, rfl⟩ rfl ⟨Nat.le_of_ble_eq_true rfl, Nat.le_of_ble_eq_true rfl⟩ (rest := [.ref (bs + a0)]) rfl (Nat.le_of_ble_eq_true rfl) ⟨Nat.le_of_ble_eq_true rfl, Nat.le_of_ble_eq_true rfl⟩ dX12_readPattern_32) ?_
      refine v_ifne C 56 dX12_readPattern_35 (by decide) h (fun _ h => ?_) (fun _ h => ?_)
      · refine v_sub [(0, .ref (bs + a0)), (1, .int x1)] [0, 1] rfl ?_
        exact wX12_readPattern_56 C hin hk hex  h g
      · refine v_aload_n C 0 dX12_readPattern_38 rfl rfl ?_
        refine v_bipush C (49 : Int32) dX12_readPattern_39 (by decide) ?_
        obtain ⟨y20, h1, h⟩ := ob_some h
        obtain ⟨hkd, h1⟩ := kd_some h1
        refine v_goi (rn_V C gcX12_237 (RX12, TX12, 33) rfl rfl (by decide) hkd (mX12_isAt h1) ⟨rfl, rfl⟩ rfl ⟨Nat.le_of_ble_eq_true rfl, Nat.le_of_ble_eq_true rfl⟩ (rest := [.ref (bs + a0)]) rfl (Nat.le_of_ble_eq_true rfl) ⟨Nat.le_of_ble_eq_true rfl, Nat.le_of_ble_eq_true rfl⟩ dX12_readPattern_41) ?_
        refine v_ifne C 56 dX12_readPattern_44 (by decide) h (fun _ h => ?_) (fun _ h => ?_)
        · refine v_sub [(0, .ref (bs + a0)), (1, .int x1)] [0, 1] rfl ?_
          exact wX12_readPattern_56 C hin hk hex  h g
        · refine v_aload_n C 0 dX12_readPattern_47 rfl rfl ?_
          refine v_bipush C (42 : Int32) dX12_readPattern_48 (by decide) ?_
          obtain ⟨y21, h1, h⟩ := ob_some h
          obtain ⟨hkd, h1⟩ := kd_some h1
          refine v_goi (rn_V C gcX12_237 (RX12, TX12, 33) rfl rfl (by decide) hkd (mX12_isAt h1) ⟨rfl, rfl⟩ rfl ⟨Nat.le_of_ble_eq_true rfl, Nat.le_of_ble_eq_true rfl⟩ (rest := [.ref (bs + a0)]) rfl (Nat.le_of_ble_eq_true rfl) ⟨Nat.le_of_ble_eq_true rfl, Nat.le_of_ble_eq_true rfl⟩ dX12_readPattern_50) ?_
          refine v_ifeq C 60 dX12_readPattern_53 (by decide) h (fun _ h => ?_) (fun _ h => ?_)
          · refine v_iconst C (0 : Int32) dX12_readPattern_60 (by decide) ?_
            refine v_sub [(0, .ref (bs + a0)), (1, .int x1)] [0, 1] rfl ?_
            exact wX12_readPattern_61 C hin hk hex  h g
          · refine v_sub [(0, .ref (bs + a0)), (1, .int x1)] [0, 1] rfl ?_
            exact wX12_readPattern_56 C hin hk hex  h g
set_option maxRecDepth 100000 in
set_option maxHeartbeats 4000000 in
theorem mX12_readPattern {l : Launch} {D : UD} {bs : Nat} {a0 : Nat} {u0 : UH} {v : UH} (h : fX12_readPattern a0 u0 = some v) : Met l yX12_readPattern (wz yX12_readPattern cX12_readPattern 2 none) rmX12_readPattern (va_Pc [.ref (bs + a0)] (uIn D bs u0)) (uQv D bs u0 v) 0 0 (uA bs u0) := by
  refine uMet (by decide) (Nat.le_of_ble_eq_true rfl) ?_
  intro X tw hX C hin
  have C : uCx X D bs tw cX12_readPattern 2 RX12 none := C
  have hin : X.2.2.2.2.2.2.2.1.name = "readPattern" := hin
  refine v_L [(0, .ref (bs + a0))] rfl ?_
  unfold fX12_readPattern at h
  refine v_aload_n C 0 dX12_readPattern_0 rfl rfl ?_
  refine v_iconst C (0 : Int32) dX12_readPattern_1 (by decide) ?_
  refine v_putI C fdX12_241 (fun h => by cases h) dX12_readPattern_2 h (fun u1 h => ?_)
  refine v_aload_n C 0 dX12_readPattern_5 rfl rfl ?_
  refine v_iconst C (0 : Int32) dX12_readPattern_6 (by decide) ?_
  refine v_putI C fdX12_244 (fun h => by cases h) dX12_readPattern_7 h (fun u2 h => ?_)
  refine v_aload_n C 0 dX12_readPattern_10 rfl rfl ?_
  refine v_getI C fdX12_67 dX12_readPattern_11 h (fun y3 h => ?_)
  refine v_iconst C (1 : Int32) dX12_readPattern_14 (by decide) ?_
  refine v_isub C dX12_readPattern_15 ?_
  refine v_lti h (fun y4 h => ?_)
  refine v_istore_n C [(1, .int y4), (0, .ref (bs + a0))] dX12_readPattern_16 rfl (by decide) rfl ?_
  refine v_sub [(0, .ref (bs + a0)), (1, .int y4)] [1, 0] rfl ?_
  refine it2_O (V := fun x1 u' => VV X D bs u0 rmX12_readPattern 2 0 0 (MQ X.2.2.2.2.2.2.1 (uQv D bs u0 v) X.2.2.2.2.2.1 X.2.2.2.1 0 0 (uA bs u0)) u' 17 [(0, .ref (bs + a0)), (1, .int x1)] []) h (fun k_ hk_ => wX12_readPattern_B17 C hin hk_ ?_ )
  intro z23 h
  try dsimp only [Sum.elim_inl] at h
  exact v_vret C dX12_readPattern_155 (Option.some.inj h)
set_option maxRecDepth 100000 in
set_option maxHeartbeats 4000000 in
theorem wX12_readRule_166 {X : UX} {D : UD} {bs tw : Nat} {u0 : UH} {r : Int32} {v : UH} (C : uCx X D bs tw cX12_readRule 9 RX12 (some .int)) (hin : X.2.2.2.2.2.2.2.1.name = "readRule") {a0 : Nat} {x1 : Int32} {x2 : Int32} {x3 : Int32} {x4 : Int32} {x5 : Int32} {u : UH} (h : fX12_readRule_166 a0 x1 x2 x3 x4 x5 u = some (r, v)) : VV X D bs u0 rmX12_readRule 9 0 0 (MQ X.2.2.2.2.2.2.1 (uQi D bs u0 v r) X.2.2.2.2.2.1 X.2.2.2.1 0 0 (uA bs u0)) u 166 [(0, .ref (bs + a0)), (1, .int x1), (2, .int x2), (3, .int x3), (4, .int x4), (5, .int x5)] [] := by
  unfold fX12_readRule_166 at h
  refine v_aload_n C 0 dX12_readRule_166 rfl rfl ?_
  refine v_getI C fdX12_233 dX12_readRule_167 h (fun y18 h => ?_)
  refine v_ifeq C 184 dX12_readRule_170 (by decide) h (fun _ h => ?_) (fun _ h => ?_)
  · refine v_bipush C (-100 : Int32) dX12_readRule_184 (by decide) ?_
    refine v_aload_n C 0 dX12_readRule_186 rfl rfl ?_
    refine v_getI C fdX12_230 dX12_readRule_187 h (fun y19 h => ?_)
    refine v_isub C dX12_readRule_190 ?_
    exact v_iret C dX12_readRule_191 (Prod.mk.inj (Option.some.inj h)).2 (Prod.mk.inj (Option.some.inj h)).1
  · refine v_aload_n C 0 dX12_readRule_173 rfl rfl ?_
    refine v_getI C fdX12_230 dX12_readRule_174 h (fun y20 h => ?_)
    refine v_aload_n C 0 dX12_readRule_177 rfl rfl ?_
    refine v_getI C fdX12_227 dX12_readRule_178 h (fun y21 h => ?_)
    refine v_icmpge C 192 dX12_readRule_181 (by decide) h (fun _ h => ?_) (fun _ h => ?_)
    · refine v_aload_n C 0 dX12_readRule_192 rfl rfl ?_
      refine v_iload_n C 1 dX12_readRule_193 rfl rfl ?_
      obtain ⟨y22, h1, h⟩ := ob_some h
      obtain ⟨hkd, h1⟩ := kd_some h1
      refine v_goi (rn_V C gcX12_110 (RX12, TX12, 33) rfl rfl (by decide) hkd (mX12_many h1) ⟨rfl, rfl⟩ rfl ⟨Nat.le_of_ble_eq_true rfl, Nat.le_of_ble_eq_true rfl⟩ (rest := []) rfl (Nat.le_of_ble_eq_true rfl) ⟨Nat.le_of_ble_eq_true rfl, Nat.le_of_ble_eq_true rfl⟩ dX12_readRule_194) ?_
      refine v_bipush C (6 : Int32) dX12_readRule_197 (by decide) ?_
      refine v_icmpne C 205 dX12_readRule_199 (by decide) h (fun _ h => ?_) (fun _ h => ?_)
      · refine v_aload_n C 0 dX12_readRule_205 rfl rfl ?_
        refine v_iload_n C 1 dX12_readRule_206 rfl rfl ?_
        obtain ⟨y23, h1, h⟩ := ob_some h
        obtain ⟨hkd, h1⟩ := kd_some h1
        refine v_goi (rn_V C gcX12_110 (RX12, TX12, 33) rfl rfl (by decide) hkd (mX12_many h1) ⟨rfl, rfl⟩ rfl ⟨Nat.le_of_ble_eq_true rfl, Nat.le_of_ble_eq_true rfl⟩ (rest := []) rfl (Nat.le_of_ble_eq_true rfl) ⟨Nat.le_of_ble_eq_true rfl, Nat.le_of_ble_eq_true rfl⟩ dX12_readRule_207) ?_
        refine v_istore C [(7, .int y23), (0, .ref (bs + a0)), (1, .int x1), (2, .int x2), (3, .int x3), (4, .int x4), (5, .int x5)] dX12_readRule_210 (by decide) rfl ?_
        refine v_aload_n C 1 dX12_readRule_212 rfl rfl ?_
        refine v_iload_n C 2 dX12_readRule_213 rfl rfl ?_
        refine v_iload C 0 dX12_readRule_214 rfl ?_
        refine v_iload_n C 3 dX12_readRule_216 rfl rfl ?_
        refine v_iload_n C 4 dX12_readRule_217 rfl rfl ?_
        refine v_iload C 5 dX12_readRule_218 rfl ?_
        refine v_iload C 6 dX12_readRule_220 rfl ?_
        obtain ⟨y24, u25, h1, h⟩ := ob2_some h
        obtain ⟨hkd, h1⟩ := kd_some h1
        refine v_goi (rn_V C gcX12_132 (RX12, TX12, 33) rfl rfl (by decide) hkd (mX12_insert h1) ⟨rfl, rfl⟩ rfl ⟨Nat.le_of_ble_eq_true rfl, Nat.le_of_ble_eq_true rfl⟩ (rest := []) rfl (Nat.le_of_ble_eq_true rfl) ⟨Nat.le_of_ble_eq_true rfl, Nat.le_of_ble_eq_true rfl⟩ dX12_readRule_222) ?_
        refine v_istore C [(8, .int y24), (7, .int y23), (0, .ref (bs + a0)), (1, .int x1), (2, .int x2), (3, .int x3), (4, .int x4), (5, .int x5)] dX12_readRule_225 (by decide) rfl ?_
        refine v_aload_n C 2 dX12_readRule_227 rfl rfl ?_
        refine v_iload_n C 3 dX12_readRule_228 rfl rfl ?_
        refine v_iload C 1 dX12_readRule_229 rfl ?_
        refine v_iconst C (4 : Int32) dX12_readRule_231 (by decide) ?_
        refine v_aload_n C 2 dX12_readRule_232 rfl rfl ?_
        refine v_getI C fdX12_241 dX12_readRule_233 h (fun y26 h => ?_)
        obtain ⟨u27, h1, h⟩ := ob_some h
        obtain ⟨hkd, h1⟩ := kd_some h1
        refine v_gov (rn_V C gcX12_118 (RX12, TX12, 33) rfl rfl (by decide) hkd (mX12_put h1) ⟨rfl, rfl⟩ rfl ⟨Nat.le_of_ble_eq_true rfl, Nat.le_of_ble_eq_true rfl⟩ (rest := []) rfl (Nat.le_of_ble_eq_true rfl) ⟨Nat.le_of_ble_eq_true rfl, Nat.le_of_ble_eq_true rfl⟩ dX12_readRule_236) ?_
        refine v_aload_n C 2 dX12_readRule_239 rfl rfl ?_
        refine v_iload_n C 3 dX12_readRule_240 rfl rfl ?_
        refine v_iload C 1 dX12_readRule_241 rfl ?_
        refine v_iconst C (5 : Int32) dX12_readRule_243 (by decide) ?_
        refine v_aload_n C 2 dX12_readRule_244 rfl rfl ?_
        refine v_getI C fdX12_244 dX12_readRule_245 h (fun y28 h => ?_)
        obtain ⟨u29, h1, h⟩ := ob_some h
        obtain ⟨hkd, h1⟩ := kd_some h1
        refine v_gov (rn_V C gcX12_118 (RX12, TX12, 33) rfl rfl (by decide) hkd (mX12_put h1) ⟨rfl, rfl⟩ rfl ⟨Nat.le_of_ble_eq_true rfl, Nat.le_of_ble_eq_true rfl⟩ (rest := []) rfl (Nat.le_of_ble_eq_true rfl) ⟨Nat.le_of_ble_eq_true rfl, Nat.le_of_ble_eq_true rfl⟩ dX12_readRule_248) ?_
        refine v_iload C 0 dX12_readRule_251 rfl ?_
        exact v_iret C dX12_readRule_253 (Prod.mk.inj (Option.some.inj h)).2 (Prod.mk.inj (Option.some.inj h)).1
      · refine v_bipush C (-5 : Int32) dX12_readRule_202 (by decide) ?_
        exact v_iret C dX12_readRule_204 (Prod.mk.inj (Option.some.inj h)).2 (Prod.mk.inj (Option.some.inj h)).1
    · refine v_bipush C (-100 : Int32) dX12_readRule_184 (by decide) ?_
      refine v_aload_n C 0 dX12_readRule_186 rfl rfl ?_
      refine v_getI C fdX12_230 dX12_readRule_187 h (fun y30 h => ?_)
      refine v_isub C dX12_readRule_190 ?_
      exact v_iret C dX12_readRule_191 (Prod.mk.inj (Option.some.inj h)).2 (Prod.mk.inj (Option.some.inj h)).1
set_option maxRecDepth 100000 in
set_option maxHeartbeats 4000000 in
theorem wX12_readRule_104 {X : UX} {D : UD} {bs tw : Nat} {u0 : UH} {r : Int32} {v : UH} (C : uCx X D bs tw cX12_readRule 9 RX12 (some .int)) (hin : X.2.2.2.2.2.2.2.1.name = "readRule") {a0 : Nat} {x1 : Int32} {x2 : Int32} {x3 : Int32} {x4 : Int32} {x5 : Int32} {s0 : Int32} {u : UH} (h : fX12_readRule_104 a0 x1 x2 x3 x4 x5 s0 u = some (r, v)) : VV X D bs u0 rmX12_readRule 9 0 0 (MQ X.2.2.2.2.2.2.1 (uQi D bs u0 v r) X.2.2.2.2.2.1 X.2.2.2.1 0 0 (uA bs u0)) u 104 [(0, .ref (bs + a0)), (1, .int x1), (2, .int x2), (3, .int x3), (4, .int x4), (5, .int x5)] [.int s0] := by
  unfold fX12_readRule_104 at h
  refine v_istore C [(6, .int s0), (0, .ref (bs + a0)), (1, .int x1), (2, .int x2), (3, .int x3), (4, .int x4), (5, .int x5)] dX12_readRule_104 (by decide) rfl ?_
  refine v_iload C 0 dX12_readRule_106 rfl ?_
  refine v_ifeq C 124 dX12_readRule_108 (by decide) h (fun _ h => ?_) (fun _ h => ?_)
  · refine v_aload_n C 1 dX12_readRule_124 rfl rfl ?_
    refine v_bipush C (62 : Int32) dX12_readRule_125 (by decide) ?_
    obtain ⟨u14, h1, h⟩ := ob_some h
    obtain ⟨hkd, h1⟩ := kd_some h1
    refine v_gov (rn_V C gcX12_250 (RX12, TX12, 33) rfl rfl (by decide) hkd (mX12_expect h1) ⟨rfl, rfl⟩ rfl ⟨Nat.le_of_ble_eq_true rfl, Nat.le_of_ble_eq_true rfl⟩ (rest := []) rfl (Nat.le_of_ble_eq_true rfl) ⟨Nat.le_of_ble_eq_true rfl, Nat.le_of_ble_eq_true rfl⟩ dX12_readRule_127) ?_
    refine v_aload_n C 1 dX12_readRule_130 rfl rfl ?_
    obtain ⟨y15, u16, h1, h⟩ := ob2_some h
    obtain ⟨hkd, h1⟩ := kd_some h1
    refine v_goi (rn_V C gcX12_247 (RX12, TX12, 33) rfl rfl (by decide) hkd (mX12_readPorts h1) ⟨rfl, rfl⟩ rfl ⟨Nat.le_of_ble_eq_true rfl, Nat.le_of_ble_eq_true rfl⟩ (rest := []) rfl (Nat.le_of_ble_eq_true rfl) ⟨Nat.le_of_ble_eq_true rfl, Nat.le_of_ble_eq_true rfl⟩ dX12_readRule_131) ?_
    refine v_istore C [(5, .int y15), (6, .int s0), (0, .ref (bs + a0)), (1, .int x1), (2, .int x2), (3, .int x3), (4, .int x4)] dX12_readRule_134 (by decide) rfl ?_
    refine v_aload_n C 2 dX12_readRule_136 rfl rfl ?_
    refine v_getI C fdX12_233 dX12_readRule_137 h (fun y17 h => ?_)
    refine v_ifeq C 166 dX12_readRule_140 (by decide) h (fun _ h => ?_) (fun _ h => ?_)
    · refine v_sub [(0, .ref (bs + a0)), (1, .int x1), (2, .int x2), (3, .int x3), (4, .int x4), (5, .int y15)] [2, 3, 4, 5, 6, 0] rfl ?_
      exact wX12_readRule_166 C hin h
    · refine v_aload_n C 2 dX12_readRule_143 rfl rfl ?_
      refine v_bipush C (61 : Int32) dX12_readRule_144 (by decide) ?_
      obtain ⟨y31, h1, h⟩ := ob_some h
      obtain ⟨hkd, h1⟩ := kd_some h1
      refine v_goi (rn_V C gcX12_237 (RX12, TX12, 33) rfl rfl (by decide) hkd (mX12_isAt h1) ⟨rfl, rfl⟩ rfl ⟨Nat.le_of_ble_eq_true rfl, Nat.le_of_ble_eq_true rfl⟩ (rest := []) rfl (Nat.le_of_ble_eq_true rfl) ⟨Nat.le_of_ble_eq_true rfl, Nat.le_of_ble_eq_true rfl⟩ dX12_readRule_146) ?_
      refine v_ifeq C 166 dX12_readRule_149 (by decide) h (fun _ h => ?_) (fun _ h => ?_)
      · refine v_sub [(0, .ref (bs + a0)), (1, .int x1), (2, .int x2), (3, .int x3), (4, .int x4), (5, .int y15)] [2, 3, 4, 5, 6, 0] rfl ?_
        exact wX12_readRule_166 C hin h
      · refine v_aload_n C 2 dX12_readRule_152 rfl rfl ?_
        refine v_dup C dX12_readRule_153 rfl ?_
        refine v_getI C fdX12_230 dX12_readRule_154 h (fun y32 h => ?_)
        refine v_iconst C (1 : Int32) dX12_readRule_157 (by decide) ?_
        refine v_iadd C dX12_readRule_158 ?_
        refine v_putI C fdX12_230 (fun h => by cases h) dX12_readRule_159 h (fun u33 h => ?_)
        refine v_aload_n C 2 dX12_readRule_162 rfl rfl ?_
        obtain ⟨u34, h1, h⟩ := ob_some h
        obtain ⟨hkd, h1⟩ := kd_some h1
        refine v_gov (rn_V C gcX12_254 (RX12, TX12, 33) rfl rfl (by decide) hkd (mX12_readPattern h1) ⟨rfl, rfl⟩ rfl ⟨Nat.le_of_ble_eq_true rfl, Nat.le_of_ble_eq_true rfl⟩ (rest := []) rfl (Nat.le_of_ble_eq_true rfl) ⟨Nat.le_of_ble_eq_true rfl, Nat.le_of_ble_eq_true rfl⟩ dX12_readRule_163) ?_
        refine v_sub [(0, .ref (bs + a0)), (1, .int x1), (2, .int x2), (3, .int x3), (4, .int x4), (5, .int y15)] [2, 3, 4, 5, 6, 0] rfl ?_
        exact wX12_readRule_166 C hin h
  · refine v_aload_n C 1 dX12_readRule_111 rfl rfl ?_
    refine v_dup C dX12_readRule_112 rfl ?_
    refine v_getI C fdX12_230 dX12_readRule_113 h (fun y35 h => ?_)
    refine v_iconst C (1 : Int32) dX12_readRule_116 (by decide) ?_
    refine v_iadd C dX12_readRule_117 ?_
    refine v_putI C fdX12_230 (fun h => by cases h) dX12_readRule_118 h (fun u36 h => ?_)
    refine v_goto C 166 dX12_readRule_121 (by decide) ?_
    refine v_sub [(0, .ref (bs + a0)), (1, .int x1), (2, .int x2), (3, .int x3), (4, .int x4), (5, .int x5)] [1, 2, 3, 4, 5, 6] rfl ?_
    exact wX12_readRule_166 C hin h
set_option maxRecDepth 100000 in
set_option maxHeartbeats 4000000 in
theorem wX12_readRule_103 {X : UX} {D : UD} {bs tw : Nat} {u0 : UH} {r : Int32} {v : UH} (C : uCx X D bs tw cX12_readRule 9 RX12 (some .int)) (hin : X.2.2.2.2.2.2.2.1.name = "readRule") {a0 : Nat} {x1 : Int32} {x2 : Int32} {x3 : Int32} {x4 : Int32} {x5 : Int32} {u : UH} (h : fX12_readRule_103 a0 x1 x2 x3 x4 x5 u = some (r, v)) : VV X D bs u0 rmX12_readRule 9 0 0 (MQ X.2.2.2.2.2.2.1 (uQi D bs u0 v r) X.2.2.2.2.2.1 X.2.2.2.1 0 0 (uA bs u0)) u 103 [(0, .ref (bs + a0)), (1, .int x1), (2, .int x2), (3, .int x3), (4, .int x4), (5, .int x5)] [] := by
  unfold fX12_readRule_103 at h
  refine v_iconst C (0 : Int32) dX12_readRule_103 (by decide) ?_
  refine v_sub [(0, .ref (bs + a0)), (1, .int x1), (2, .int x2), (3, .int x3), (4, .int x4), (5, .int x5)] [0, 1, 2, 3, 4, 5] rfl ?_
  exact wX12_readRule_104 C hin h
set_option maxRecDepth 100000 in
set_option maxHeartbeats 4000000 in
theorem wX12_readRule_49 {X : UX} {D : UD} {bs tw : Nat} {u0 : UH} {r : Int32} {v : UH} (C : uCx X D bs tw cX12_readRule 9 RX12 (some .int)) (hin : X.2.2.2.2.2.2.2.1.name = "readRule") {a0 : Nat} {x1 : Int32} {x2 : Int32} {u : UH} (h : fX12_readRule_49 a0 x1 x2 u = some (r, v)) : VV X D bs u0 rmX12_readRule 9 0 0 (MQ X.2.2.2.2.2.2.1 (uQi D bs u0 v r) X.2.2.2.2.2.1 X.2.2.2.1 0 0 (uA bs u0)) u 49 [(0, .ref (bs + a0)), (1, .int x1), (2, .int x2)] [] := by
  unfold fX12_readRule_49 at h
  refine v_aload_n C 0 dX12_readRule_49 rfl rfl ?_
  refine v_bipush C (58 : Int32) dX12_readRule_50 (by decide) ?_
  obtain ⟨u7, h1, h⟩ := ob_some h
  obtain ⟨hkd, h1⟩ := kd_some h1
  refine v_gov (rn_V C gcX12_250 (RX12, TX12, 33) rfl rfl (by decide) hkd (mX12_expect h1) ⟨rfl, rfl⟩ rfl ⟨Nat.le_of_ble_eq_true rfl, Nat.le_of_ble_eq_true rfl⟩ (rest := []) rfl (Nat.le_of_ble_eq_true rfl) ⟨Nat.le_of_ble_eq_true rfl, Nat.le_of_ble_eq_true rfl⟩ dX12_readRule_52) ?_
  refine v_aload_n C 0 dX12_readRule_55 rfl rfl ?_
  obtain ⟨u8, h1, h⟩ := ob_some h
  obtain ⟨hkd, h1⟩ := kd_some h1
  refine v_gov (rn_V C gcX12_254 (RX12, TX12, 33) rfl rfl (by decide) hkd (mX12_readPattern h1) ⟨rfl, rfl⟩ rfl ⟨Nat.le_of_ble_eq_true rfl, Nat.le_of_ble_eq_true rfl⟩ (rest := []) rfl (Nat.le_of_ble_eq_true rfl) ⟨Nat.le_of_ble_eq_true rfl, Nat.le_of_ble_eq_true rfl⟩ dX12_readRule_56) ?_
  refine v_aload_n C 0 dX12_readRule_59 rfl rfl ?_
  refine v_getI C fdX12_241 dX12_readRule_60 h (fun y9 h => ?_)
  refine v_istore_n C [(3, .int y9), (0, .ref (bs + a0)), (1, .int x1), (2, .int x2)] dX12_readRule_63 rfl (by decide) rfl ?_
  refine v_aload_n C 1 dX12_readRule_64 rfl rfl ?_
  refine v_getI C fdX12_244 dX12_readRule_65 h (fun y10 h => ?_)
  refine v_istore C [(4, .int y10), (3, .int y9), (0, .ref (bs + a0)), (1, .int x1), (2, .int x2)] dX12_readRule_68 (by decide) rfl ?_
  refine v_iconst C (0 : Int32) dX12_readRule_70 (by decide) ?_
  refine v_istore C [(5, .int (0 : Int32)), (4, .int y10), (3, .int y9), (0, .ref (bs + a0)), (1, .int x1), (2, .int x2)] dX12_readRule_71 (by decide) rfl ?_
  refine v_aload_n C 3 dX12_readRule_73 rfl rfl ?_
  refine v_iconst C (0 : Int32) dX12_readRule_74 (by decide) ?_
  refine v_putI C fdX12_241 (fun h => by cases h) dX12_readRule_75 h (fun u11 h => ?_)
  refine v_aload_n C 3 dX12_readRule_78 rfl rfl ?_
  refine v_iconst C (0 : Int32) dX12_readRule_79 (by decide) ?_
  refine v_putI C fdX12_244 (fun h => by cases h) dX12_readRule_80 h (fun u12 h => ?_)
  refine v_aload_n C 3 dX12_readRule_83 rfl rfl ?_
  refine v_getI C fdX12_233 dX12_readRule_84 h (fun y13 h => ?_)
  refine v_ifeq C 103 dX12_readRule_87 (by decide) h (fun _ h => ?_) (fun _ h => ?_)
  · refine v_sub [(0, .ref (bs + a0)), (1, .int x1), (2, .int x2), (3, .int y9), (4, .int y10), (5, .int (0 : Int32))] [3, 4, 5, 2, 1, 0] rfl ?_
    exact wX12_readRule_103 C hin h
  · refine v_aload_n C 3 dX12_readRule_90 rfl rfl ?_
    refine v_bipush C (33 : Int32) dX12_readRule_91 (by decide) ?_
    obtain ⟨y37, h1, h⟩ := ob_some h
    obtain ⟨hkd, h1⟩ := kd_some h1
    refine v_goi (rn_V C gcX12_237 (RX12, TX12, 33) rfl rfl (by decide) hkd (mX12_isAt h1) ⟨rfl, rfl⟩ rfl ⟨Nat.le_of_ble_eq_true rfl, Nat.le_of_ble_eq_true rfl⟩ (rest := []) rfl (Nat.le_of_ble_eq_true rfl) ⟨Nat.le_of_ble_eq_true rfl, Nat.le_of_ble_eq_true rfl⟩ dX12_readRule_93) ?_
    refine v_ifeq C 103 dX12_readRule_96 (by decide) h (fun _ h => ?_) (fun _ h => ?_)
    · refine v_sub [(0, .ref (bs + a0)), (1, .int x1), (2, .int x2), (3, .int y9), (4, .int y10), (5, .int (0 : Int32))] [3, 4, 5, 2, 1, 0] rfl ?_
      exact wX12_readRule_103 C hin h
    · refine v_iconst C (1 : Int32) dX12_readRule_99 (by decide) ?_
      refine v_goto C 104 dX12_readRule_100 (by decide) ?_
      refine v_sub [(0, .ref (bs + a0)), (1, .int x1), (2, .int x2), (3, .int y9), (4, .int y10), (5, .int (0 : Int32))] [3, 4, 5, 2, 1, 0] rfl ?_
      exact wX12_readRule_104 C hin h
set_option maxRecDepth 100000 in
set_option maxHeartbeats 4000000 in
theorem mX12_readRule {l : Launch} {D : UD} {bs : Nat} {a0 : Nat} {x1 : Int32} {u0 : UH} {r : Int32} {v : UH} (h : fX12_readRule a0 x1 u0 = some (r, v)) : Met l yX12_readRule (wz yX12_readRule cX12_readRule 9 (some .int)) rmX12_readRule (va_Pc [.ref (bs + a0), .int x1] (uIn D bs u0)) (uQi D bs u0 v r) 0 0 (uA bs u0) := by
  refine uMet (by decide) (Nat.le_of_ble_eq_true rfl) ?_
  intro X tw hX C hin
  have C : uCx X D bs tw cX12_readRule 9 RX12 (some .int) := C
  have hin : X.2.2.2.2.2.2.2.1.name = "readRule" := hin
  refine v_L [(0, .ref (bs + a0)), (1, .int x1)] rfl ?_
  unfold fX12_readRule at h
  refine v_iload_n C 1 dX12_readRule_0 rfl rfl ?_
  obtain ⟨y1, h1, h⟩ := ob_some h
  refine v_goi (rn_S C gcX12_102 (mX12_noBox h1) ⟨rfl, rfl⟩ rfl ⟨Nat.le_of_ble_eq_true rfl, Nat.le_of_ble_eq_true rfl⟩ (rest := []) rfl (Nat.le_of_ble_eq_true rfl) ⟨Nat.le_of_ble_eq_true rfl, Nat.le_of_ble_eq_true rfl⟩ dX12_readRule_1) ?_
  refine v_ifeq C 9 dX12_readRule_4 (by decide) h (fun _ h => ?_) (fun _ h => ?_)
  · refine v_aload_n C 0 dX12_readRule_9 rfl rfl ?_
    refine v_iconst C (0 : Int32) dX12_readRule_10 (by decide) ?_
    refine v_putI C fdX12_230 (fun h => by cases h) dX12_readRule_11 h (fun u2 h => ?_)
    refine v_aload_n C 0 dX12_readRule_14 rfl rfl ?_
    refine v_iconst C (1 : Int32) dX12_readRule_15 (by decide) ?_
    refine v_putZ C fdX12_233 (fun h => by cases h) dX12_readRule_16 h (fun u3 h => ?_)
    refine v_bipush C (15 : Int32) dX12_readRule_19 (by decide) ?_
    refine v_istore_n C [(2, .int (15 : Int32)), (0, .ref (bs + a0)), (1, .int x1)] dX12_readRule_21 rfl (by decide) rfl ?_
    refine v_aload_n C 1 dX12_readRule_22 rfl rfl ?_
    refine v_bipush C (42 : Int32) dX12_readRule_23 (by decide) ?_
    obtain ⟨y4, h1, h⟩ := ob_some h
    obtain ⟨hkd, h1⟩ := kd_some h1
    refine v_goi (rn_V C gcX12_237 (RX12, TX12, 33) rfl rfl (by decide) hkd (mX12_isAt h1) ⟨rfl, rfl⟩ rfl ⟨Nat.le_of_ble_eq_true rfl, Nat.le_of_ble_eq_true rfl⟩ (rest := []) rfl (Nat.le_of_ble_eq_true rfl) ⟨Nat.le_of_ble_eq_true rfl, Nat.le_of_ble_eq_true rfl⟩ dX12_readRule_25) ?_
    refine v_ifeq C 44 dX12_readRule_28 (by decide) h (fun _ h => ?_) (fun _ h => ?_)
    · refine v_aload_n C 1 dX12_readRule_44 rfl rfl ?_
      obtain ⟨y5, u6, h1, h⟩ := ob2_some h
      obtain ⟨hkd, h1⟩ := kd_some h1
      refine v_goi (rn_V C gcX12_247 (RX12, TX12, 33) rfl rfl (by decide) hkd (mX12_readPorts h1) ⟨rfl, rfl⟩ rfl ⟨Nat.le_of_ble_eq_true rfl, Nat.le_of_ble_eq_true rfl⟩ (rest := []) rfl (Nat.le_of_ble_eq_true rfl) ⟨Nat.le_of_ble_eq_true rfl, Nat.le_of_ble_eq_true rfl⟩ dX12_readRule_45) ?_
      refine v_istore_n C [(2, .int y5), (0, .ref (bs + a0)), (1, .int x1)] dX12_readRule_48 rfl (by decide) rfl ?_
      refine v_sub [(0, .ref (bs + a0)), (1, .int x1), (2, .int y5)] [1, 2, 0] rfl ?_
      exact wX12_readRule_49 C hin h
    · refine v_aload_n C 1 dX12_readRule_31 rfl rfl ?_
      refine v_dup C dX12_readRule_32 rfl ?_
      refine v_getI C fdX12_230 dX12_readRule_33 h (fun y38 h => ?_)
      refine v_iconst C (1 : Int32) dX12_readRule_36 (by decide) ?_
      refine v_iadd C dX12_readRule_37 ?_
      refine v_putI C fdX12_230 (fun h => by cases h) dX12_readRule_38 h (fun u39 h => ?_)
      refine v_goto C 49 dX12_readRule_41 (by decide) ?_
      refine v_sub [(0, .ref (bs + a0)), (1, .int x1), (2, .int (15 : Int32))] [1, 2, 0] rfl ?_
      exact wX12_readRule_49 C hin h
  · refine v_iconst C (-1 : Int32) dX12_readRule_7 (by decide) ?_
    exact v_iret C dX12_readRule_8 (Prod.mk.inj (Option.some.inj h)).2 (Prod.mk.inj (Option.some.inj h)).1
set_option maxRecDepth 100000 in
set_option maxHeartbeats 4000000 in
theorem mX12_write {l : Launch} {D : UD} {bs : Nat} {a0 : Nat} {x1 : Int32} {u0 : UH} {v : UH} (h : fX12_write a0 x1 u0 = some v) : Met l yX12_write (wz yX12_write cX12_write 2 none) rmX12_write (va_Pc [.ref (bs + a0), .int x1] (uIn D bs u0)) (uQv D bs u0 v) 0 0 (uA bs u0) := by
  refine uMet (by decide) (Nat.le_of_ble_eq_true rfl) ?_
  intro X tw hX C hin
  have C : uCx X D bs tw cX12_write 2 RX12 none := C
  have hin : X.2.2.2.2.2.2.2.1.name = "write" := hin
  refine v_L [(0, .ref (bs + a0)), (1, .int x1)] rfl ?_
  unfold fX12_write at h
  refine v_aload_n C 0 dX12_write_0 rfl rfl ?_
  refine v_getR C fdX12_64 dX12_write_1 h (fun b1 h => ?_)
  refine v_aload_n C 0 dX12_write_4 rfl rfl ?_
  refine v_getI C fdX12_257 dX12_write_5 h (fun y2 h => ?_)
  refine v_iload_n C 1 dX12_write_8 rfl rfl ?_
  refine v_stI C dX12_write_9 h (fun u3 h => ?_)
  refine v_aload_n C 0 dX12_write_10 rfl rfl ?_
  refine v_dup C dX12_write_11 rfl ?_
  refine v_getI C fdX12_257 dX12_write_12 h (fun y4 h => ?_)
  refine v_iconst C (1 : Int32) dX12_write_15 (by decide) ?_
  refine v_iadd C dX12_write_16 ?_
  refine v_putI C fdX12_257 (fun h => by cases h) dX12_write_17 h (fun u5 h => ?_)
  exact v_vret C dX12_write_20 (Option.some.inj h)
set_option maxRecDepth 100000 in
set_option maxHeartbeats 4000000 in
theorem wX12_writePorts_B2 {X : UX} {D : UD} {bs tw : Nat} {u0 : UH} {v : UH} (C : uCx X D bs tw cX12_writePorts 3 RX12 none) (hin : X.2.2.2.2.2.2.2.1.name = "writePorts") {a0 : Nat} {x1 : Int32}  {G : UH → Prop} {k : Int32 → UH → Option UH} (hk : ∀ (x2 : Int32) (u' : UH) e, k x2 u' = some e → G e → VV X D bs u0 rmX12_writePorts 3 0 0 (MQ X.2.2.2.2.2.2.1 (uQv D bs u0 v) X.2.2.2.2.2.1 X.2.2.2.1 0 0 (uA bs u0)) u' 2 [(0, .ref (bs + a0)), (1, .int x1), (2, .int x2)] []) (hex : ∀  (u' : UH), G u' → VV X D bs u0 rmX12_writePorts 3 0 0 (MQ X.2.2.2.2.2.2.1 (uQv D bs u0 v) X.2.2.2.2.2.1 X.2.2.2.1 0 0 (uA bs u0)) u' 30 [] [])  : ∀ (x2 : Int32) (u : UH) e, fX12_writePorts_B2 a0 x1  k x2 u = some e → G e → VV X D bs u0 rmX12_writePorts 3 0 0 (MQ X.2.2.2.2.2.2.1 (uQv D bs u0 v) X.2.2.2.2.2.1 X.2.2.2.1 0 0 (uA bs u0)) u 2 [(0, .ref (bs + a0)), (1, .int x1), (2, .int x2)] [] := by
  intro x2 u e h g
  unfold fX12_writePorts_B2 at h
  refine v_iload_n C 2 dX12_writePorts_2 rfl rfl ?_
  refine v_iconst C (4 : Int32) dX12_writePorts_3 (by decide) ?_
  refine v_icmpge C 30 dX12_writePorts_4 (by decide) h (fun _ h => ?_) (fun _ h => ?_)
  · refine v_sub [] [] rfl ?_
    exact hex u ((Option.some.inj h).symm ▸ g)
  · refine v_iload_n C 1 dX12_writePorts_7 rfl rfl ?_
    refine v_iload_n C 2 dX12_writePorts_8 rfl rfl ?_
    refine v_ishr C dX12_writePorts_9 ?_
    refine v_iconst C (1 : Int32) dX12_writePorts_10 (by decide) ?_
    refine v_iand C dX12_writePorts_11 ?_
    refine v_iconst C (1 : Int32) dX12_writePorts_12 (by decide) ?_
    refine v_icmpne C 24 dX12_writePorts_13 (by decide) h (fun _ h => ?_) (fun _ h => ?_)
    · refine v_iinc C 2 (x2 + (1 : Int32)) [(2, .int (x2 + (1 : Int32))), (0, .ref (bs + a0)), (1, .int x1)] dX12_writePorts_24 rfl rfl (by decide) rfl ?_
      refine v_goto C 2 dX12_writePorts_27 (by decide) ?_
      refine v_sub [(0, .ref (bs + a0)), (1, .int x1), (2, .int (x2 + (1 : Int32)))] [1, 2, 0] rfl ?_
      exact hk (x2 + (1 : Int32)) u _ h g
    · refine v_aload_n C 0 dX12_writePorts_16 rfl rfl ?_
      refine v_bipush C (48 : Int32) dX12_writePorts_17 (by decide) ?_
      refine v_iload_n C 2 dX12_writePorts_19 rfl rfl ?_
      refine v_iadd C dX12_writePorts_20 ?_
      obtain ⟨u1, h1, h⟩ := ob_some h
      obtain ⟨hkd, h1⟩ := kd_some h1
      refine v_gov (rn_V C gcX12_260 (RX12, TX12, 33) rfl rfl (by decide) hkd (mX12_write h1) ⟨rfl, rfl⟩ rfl ⟨Nat.le_of_ble_eq_true rfl, Nat.le_of_ble_eq_true rfl⟩ (rest := []) rfl (Nat.le_of_ble_eq_true rfl) ⟨Nat.le_of_ble_eq_true rfl, Nat.le_of_ble_eq_true rfl⟩ dX12_writePorts_21) ?_
      refine v_iinc C 2 (x2 + (1 : Int32)) [(2, .int (x2 + (1 : Int32))), (0, .ref (bs + a0)), (1, .int x1)] dX12_writePorts_24 rfl rfl (by decide) rfl ?_
      refine v_goto C 2 dX12_writePorts_27 (by decide) ?_
      refine v_sub [(0, .ref (bs + a0)), (1, .int x1), (2, .int (x2 + (1 : Int32)))] [1, 2, 0] rfl ?_
      exact hk (x2 + (1 : Int32)) u1 _ h g
set_option maxRecDepth 100000 in
set_option maxHeartbeats 4000000 in
theorem mX12_writePorts {l : Launch} {D : UD} {bs : Nat} {a0 : Nat} {x1 : Int32} {u0 : UH} {v : UH} (h : fX12_writePorts a0 x1 u0 = some v) : Met l yX12_writePorts (wz yX12_writePorts cX12_writePorts 3 none) rmX12_writePorts (va_Pc [.ref (bs + a0), .int x1] (uIn D bs u0)) (uQv D bs u0 v) 0 0 (uA bs u0) := by
  refine uMet (by decide) (Nat.le_of_ble_eq_true rfl) ?_
  intro X tw hX C hin
  have C : uCx X D bs tw cX12_writePorts 3 RX12 none := C
  have hin : X.2.2.2.2.2.2.2.1.name = "writePorts" := hin
  refine v_L [(0, .ref (bs + a0)), (1, .int x1)] rfl ?_
  unfold fX12_writePorts at h
  refine v_iconst C (0 : Int32) dX12_writePorts_0 (by decide) ?_
  refine v_istore_n C [(2, .int (0 : Int32)), (0, .ref (bs + a0)), (1, .int x1)] dX12_writePorts_1 rfl (by decide) rfl ?_
  refine v_sub [(0, .ref (bs + a0)), (1, .int x1), (2, .int (0 : Int32))] [1, 2, 0] rfl ?_
  refine it2_O (V := fun x2 u' => VV X D bs u0 rmX12_writePorts 3 0 0 (MQ X.2.2.2.2.2.2.1 (uQv D bs u0 v) X.2.2.2.2.2.1 X.2.2.2.1 0 0 (uA bs u0)) u' 2 [(0, .ref (bs + a0)), (1, .int x1), (2, .int x2)] []) h (fun k_ hk_ => wX12_writePorts_B2 C hin hk_ ?_ )
  intro z3 h
  try dsimp only [Sum.elim_inl] at h
  exact v_vret C dX12_writePorts_30 (Option.some.inj h)
set_option maxRecDepth 100000 in
set_option maxHeartbeats 4000000 in
theorem wX12_writePattern_33 {X : UX} {D : UD} {bs tw : Nat} {u0 : UH} {v : UH} (C : uCx X D bs tw cX12_writePattern 4 RX12 none) (hin : X.2.2.2.2.2.2.2.1.name = "writePattern") {a0 : Nat} {x1 : Int32} {x2 : Int32}  {G : UH → Prop} {k : Int32 → UH → Option UH} (hk : ∀ (x3 : Int32) (u' : UH) e, k x3 u' = some e → G e → VV X D bs u0 rmX12_writePattern 4 0 0 (MQ X.2.2.2.2.2.2.1 (uQv D bs u0 v) X.2.2.2.2.2.1 X.2.2.2.1 0 0 (uA bs u0)) u' 7 [(0, .ref (bs + a0)), (1, .int x1), (2, .int x2), (3, .int x3)] []) (hex : ∀  (u' : UH), G u' → VV X D bs u0 rmX12_writePattern 4 0 0 (MQ X.2.2.2.2.2.2.1 (uQv D bs u0 v) X.2.2.2.2.2.1 X.2.2.2.1 0 0 (uA bs u0)) u' 42 [] [])  {x3 : Int32} {s0 : Int32} {s1 : Nat} {u : UH} {e : UH} (h : fX12_writePattern_33 k a0 x1 x2 x3 s0 s1 u = some e) (g : G e) : VV X D bs u0 rmX12_writePattern 4 0 0 (MQ X.2.2.2.2.2.2.1 (uQv D bs u0 v) X.2.2.2.2.2.1 X.2.2.2.1 0 0 (uA bs u0)) u 33 [(0, .ref (bs + a0)), (1, .int x1), (2, .int x2), (3, .int x3)] [.int s0, .ref (bs + s1)] := by
  unfold fX12_writePattern_33 at h
  obtain ⟨u3, h1, h⟩ := ob_some h
  obtain ⟨hkd, h1⟩ := kd_some h1
  refine v_gov (rn_V C gcX12_260 (RX12, TX12, 33) rfl rfl (by decide) hkd (mX12_write h1) ⟨rfl, rfl⟩ rfl ⟨Nat.le_of_ble_eq_true rfl, Nat.le_of_ble_eq_true rfl⟩ (rest := []) rfl (Nat.le_of_ble_eq_true rfl) ⟨Nat.le_of_ble_eq_true rfl, Nat.le_of_ble_eq_true rfl⟩ dX12_writePattern_33) ?_
  refine v_iinc C 3 (x3 + (-1 : Int32)) [(3, .int (x3 + (-1 : Int32))), (0, .ref (bs + a0)), (1, .int x1), (2, .int x2)] dX12_writePattern_36 rfl rfl (by decide) rfl ?_
  refine v_goto C 7 dX12_writePattern_39 (by decide) ?_
  refine v_sub [(0, .ref (bs + a0)), (1, .int x1), (2, .int x2), (3, .int (x3 + (-1 : Int32)))] [1, 2, 3, 0] rfl ?_
  exact hk (x3 + (-1 : Int32)) u3 _ h g
set_option maxRecDepth 100000 in
set_option maxHeartbeats 4000000 in
theorem wX12_writePattern_B7 {X : UX} {D : UD} {bs tw : Nat} {u0 : UH} {v : UH} (C : uCx X D bs tw cX12_writePattern 4 RX12 none) (hin : X.2.2.2.2.2.2.2.1.name = "writePattern") {a0 : Nat} {x1 : Int32} {x2 : Int32}  {G : UH → Prop} {k : Int32 → UH → Option UH} (hk : ∀ (x3 : Int32) (u' : UH) e, k x3 u' = some e → G e → VV X D bs u0 rmX12_writePattern 4 0 0 (MQ X.2.2.2.2.2.2.1 (uQv D bs u0 v) X.2.2.2.2.2.1 X.2.2.2.1 0 0 (uA bs u0)) u' 7 [(0, .ref (bs + a0)), (1, .int x1), (2, .int x2), (3, .int x3)] []) (hex : ∀  (u' : UH), G u' → VV X D bs u0 rmX12_writePattern 4 0 0 (MQ X.2.2.2.2.2.2.1 (uQv D bs u0 v) X.2.2.2.2.2.1 X.2.2.2.1 0 0 (uA bs u0)) u' 42 [] [])  : ∀ (x3 : Int32) (u : UH) e, fX12_writePattern_B7 a0 x1 x2  k x3 u = some e → G e → VV X D bs u0 rmX12_writePattern 4 0 0 (MQ X.2.2.2.2.2.2.1 (uQv D bs u0 v) X.2.2.2.2.2.1 X.2.2.2.1 0 0 (uA bs u0)) u 7 [(0, .ref (bs + a0)), (1, .int x1), (2, .int x2), (3, .int x3)] [] := by
  intro x3 u e h g
  unfold fX12_writePattern_B7 at h
  refine v_iload_n C 3 dX12_writePattern_7 rfl rfl ?_
  refine v_iflt C 42 dX12_writePattern_8 (by decide) h (fun _ h => ?_) (fun _ h => ?_)
  · refine v_sub [] [] rfl ?_
    exact hex u ((Option.some.inj h).symm ▸ g)
  · refine v_aload_n C 0 dX12_writePattern_11 rfl rfl ?_
    refine v_iload_n C 1 dX12_writePattern_12 rfl rfl ?_
    refine v_iload_n C 3 dX12_writePattern_13 rfl rfl ?_
    refine v_ishr C dX12_writePattern_14 ?_
    refine v_iconst C (1 : Int32) dX12_writePattern_15 (by decide) ?_
    refine v_iand C dX12_writePattern_16 ?_
    refine v_ifne C 25 dX12_writePattern_17 (by decide) h (fun _ h => ?_) (fun _ h => ?_)
    · refine v_bipush C (48 : Int32) dX12_writePattern_25 (by decide) ?_
      refine v_iload_n C 2 dX12_writePattern_27 rfl rfl ?_
      refine v_iload_n C 3 dX12_writePattern_28 rfl rfl ?_
      refine v_ishr C dX12_writePattern_29 ?_
      refine v_iconst C (1 : Int32) dX12_writePattern_30 (by decide) ?_
      refine v_iand C dX12_writePattern_31 ?_
      refine v_iadd C dX12_writePattern_32 ?_
      refine v_sub [(0, .ref (bs + a0)), (1, .int x1), (2, .int x2), (3, .int x3)] [0, 1, 2, 3] rfl ?_
      exact wX12_writePattern_33 C hin hk hex  h g
    · refine v_bipush C (42 : Int32) dX12_writePattern_20 (by decide) ?_
      refine v_goto C 33 dX12_writePattern_22 (by decide) ?_
      refine v_sub [(0, .ref (bs + a0)), (1, .int x1), (2, .int x2), (3, .int x3)] [0, 1, 2, 3] rfl ?_
      exact wX12_writePattern_33 C hin hk hex  h g
set_option maxRecDepth 100000 in
set_option maxHeartbeats 4000000 in
theorem mX12_writePattern {l : Launch} {D : UD} {bs : Nat} {a0 : Nat} {x1 : Int32} {x2 : Int32} {u0 : UH} {v : UH} (h : fX12_writePattern a0 x1 x2 u0 = some v) : Met l yX12_writePattern (wz yX12_writePattern cX12_writePattern 4 none) rmX12_writePattern (va_Pc [.ref (bs + a0), .int x1, .int x2] (uIn D bs u0)) (uQv D bs u0 v) 0 0 (uA bs u0) := by
  refine uMet (by decide) (Nat.le_of_ble_eq_true rfl) ?_
  intro X tw hX C hin
  have C : uCx X D bs tw cX12_writePattern 4 RX12 none := C
  have hin : X.2.2.2.2.2.2.2.1.name = "writePattern" := hin
  refine v_L [(0, .ref (bs + a0)), (1, .int x1), (2, .int x2)] rfl ?_
  unfold fX12_writePattern at h
  refine v_aload_n C 0 dX12_writePattern_0 rfl rfl ?_
  refine v_getI C fdX12_67 dX12_writePattern_1 h (fun y1 h => ?_)
  refine v_iconst C (1 : Int32) dX12_writePattern_4 (by decide) ?_
  refine v_isub C dX12_writePattern_5 ?_
  refine v_lti h (fun y2 h => ?_)
  refine v_istore_n C [(3, .int y2), (0, .ref (bs + a0)), (1, .int x1), (2, .int x2)] dX12_writePattern_6 rfl (by decide) rfl ?_
  refine v_sub [(0, .ref (bs + a0)), (1, .int x1), (2, .int x2), (3, .int y2)] [1, 2, 3, 0] rfl ?_
  refine it2_O (V := fun x3 u' => VV X D bs u0 rmX12_writePattern 4 0 0 (MQ X.2.2.2.2.2.2.1 (uQv D bs u0 v) X.2.2.2.2.2.1 X.2.2.2.1 0 0 (uA bs u0)) u' 7 [(0, .ref (bs + a0)), (1, .int x1), (2, .int x2), (3, .int x3)] []) h (fun k_ hk_ => wX12_writePattern_B7 C hin hk_ ?_ )
  intro z5 h
  try dsimp only [Sum.elim_inl] at h
  exact v_vret C dX12_writePattern_42 (Option.some.inj h)
set_option maxRecDepth 100000 in
set_option maxHeartbeats 4000000 in
theorem wX12_ruleText_154 {X : UX} {D : UD} {bs tw : Nat} {u0 : UH} {r : Int32} {v : UH} (C : uCx X D bs tw cX12_ruleText 5 RX12 (some .int)) (hin : X.2.2.2.2.2.2.2.1.name = "ruleText") {a0 : Nat} {x3 : Int32} {u : UH} (h : fX12_ruleText_154 a0 x3 u = some (r, v)) : VV X D bs u0 rmX12_ruleText 5 0 0 (MQ X.2.2.2.2.2.2.1 (uQi D bs u0 v r) X.2.2.2.2.2.1 X.2.2.2.1 0 0 (uA bs u0)) u 154 [(0, .ref (bs + a0)), (3, .int x3)] [] := by
  unfold fX12_ruleText_154 at h
  refine v_iload_n C 1 dX12_ruleText_154 rfl rfl ?_
  refine v_aload_n C 0 dX12_ruleText_155 rfl rfl ?_
  refine v_getI C fdX12_257 dX12_ruleText_156 h (fun y15 h => ?_)
  refine v_icmpge C 171 dX12_ruleText_159 (by decide) h (fun _ h => ?_) (fun _ h => ?_)
  · refine v_bipush C (-6 : Int32) dX12_ruleText_171 (by decide) ?_
    exact v_iret C dX12_ruleText_173 (Prod.mk.inj (Option.some.inj h)).2 (Prod.mk.inj (Option.some.inj h)).1
  · refine v_aload_n C 0 dX12_ruleText_162 rfl rfl ?_
    refine v_getR C fdX12_64 dX12_ruleText_163 h (fun b16 h => ?_)
    refine v_iload_n C 1 dX12_ruleText_166 rfl rfl ?_
    refine v_ldI C dX12_ruleText_167 h (fun y17 h => ?_)
    refine v_goto C 173 dX12_ruleText_168 (by decide) ?_
    exact v_iret C dX12_ruleText_173 (Prod.mk.inj (Option.some.inj h)).2 (Prod.mk.inj (Option.some.inj h)).1
set_option maxRecDepth 100000 in
set_option maxHeartbeats 4000000 in
theorem wX12_ruleText_120 {X : UX} {D : UD} {bs tw : Nat} {u0 : UH} {r : Int32} {v : UH} (C : uCx X D bs tw cX12_ruleText 5 RX12 (some .int)) (hin : X.2.2.2.2.2.2.2.1.name = "ruleText") {a0 : Nat} {x1 : Int32} {x2 : Int32} {x3 : Int32} {u : UH} (h : fX12_ruleText_120 a0 x1 x2 x3 u = some (r, v)) : VV X D bs u0 rmX12_ruleText 5 0 0 (MQ X.2.2.2.2.2.2.1 (uQi D bs u0 v r) X.2.2.2.2.2.1 X.2.2.2.1 0 0 (uA bs u0)) u 120 [(0, .ref (bs + a0)), (1, .int x1), (2, .int x2), (3, .int x3)] [] := by
  unfold fX12_ruleText_120 at h
  refine v_aload_n C 0 dX12_ruleText_120 rfl rfl ?_
  refine v_iload_n C 1 dX12_ruleText_121 rfl rfl ?_
  refine v_iload_n C 2 dX12_ruleText_122 rfl rfl ?_
  refine v_iconst C (4 : Int32) dX12_ruleText_123 (by decide) ?_
  obtain ⟨y14, h1, h⟩ := ob_some h
  obtain ⟨hkd, h1⟩ := kd_some h1
  refine v_goi (rn_V C gcX12_114 (RX12, TX12, 33) rfl rfl (by decide) hkd (mX12_of h1) ⟨rfl, rfl⟩ rfl ⟨Nat.le_of_ble_eq_true rfl, Nat.le_of_ble_eq_true rfl⟩ (rest := []) rfl (Nat.le_of_ble_eq_true rfl) ⟨Nat.le_of_ble_eq_true rfl, Nat.le_of_ble_eq_true rfl⟩ dX12_ruleText_124) ?_
  refine v_ifeq C 154 dX12_ruleText_127 (by decide) h (fun _ h => ?_) (fun _ h => ?_)
  · refine v_sub [(0, .ref (bs + a0)), (3, .int x3)] [0, 3] rfl ?_
    exact wX12_ruleText_154 C hin h
  · refine v_aload_n C 0 dX12_ruleText_130 rfl rfl ?_
    refine v_bipush C (61 : Int32) dX12_ruleText_131 (by decide) ?_
    obtain ⟨u18, h1, h⟩ := ob_some h
    obtain ⟨hkd, h1⟩ := kd_some h1
    refine v_gov (rn_V C gcX12_260 (RX12, TX12, 33) rfl rfl (by decide) hkd (mX12_write h1) ⟨rfl, rfl⟩ rfl ⟨Nat.le_of_ble_eq_true rfl, Nat.le_of_ble_eq_true rfl⟩ (rest := []) rfl (Nat.le_of_ble_eq_true rfl) ⟨Nat.le_of_ble_eq_true rfl, Nat.le_of_ble_eq_true rfl⟩ dX12_ruleText_133) ?_
    refine v_aload_n C 0 dX12_ruleText_136 rfl rfl ?_
    refine v_aload_n C 0 dX12_ruleText_137 rfl rfl ?_
    refine v_iload_n C 1 dX12_ruleText_138 rfl rfl ?_
    refine v_iload_n C 2 dX12_ruleText_139 rfl rfl ?_
    refine v_iconst C (4 : Int32) dX12_ruleText_140 (by decide) ?_
    obtain ⟨y19, h1, h⟩ := ob_some h
    obtain ⟨hkd, h1⟩ := kd_some h1
    refine v_goi (rn_V C gcX12_114 (RX12, TX12, 33) rfl rfl (by decide) hkd (mX12_of h1) ⟨rfl, rfl⟩ rfl ⟨Nat.le_of_ble_eq_true rfl, Nat.le_of_ble_eq_true rfl⟩ (rest := [.ref (bs + a0)]) rfl (Nat.le_of_ble_eq_true rfl) ⟨Nat.le_of_ble_eq_true rfl, Nat.le_of_ble_eq_true rfl⟩ dX12_ruleText_141) ?_
    refine v_aload_n C 0 dX12_ruleText_144 rfl rfl ?_
    refine v_iload_n C 1 dX12_ruleText_145 rfl rfl ?_
    refine v_iload_n C 2 dX12_ruleText_146 rfl rfl ?_
    refine v_iconst C (5 : Int32) dX12_ruleText_147 (by decide) ?_
    obtain ⟨y20, h1, h⟩ := ob_some h
    obtain ⟨hkd, h1⟩ := kd_some h1
    refine v_goi (rn_V C gcX12_114 (RX12, TX12, 33) rfl rfl (by decide) hkd (mX12_of h1) ⟨rfl, rfl⟩ rfl ⟨Nat.le_of_ble_eq_true rfl, Nat.le_of_ble_eq_true rfl⟩ (rest := [.int y19, .ref (bs + a0)]) rfl (Nat.le_of_ble_eq_true rfl) ⟨Nat.le_of_ble_eq_true rfl, Nat.le_of_ble_eq_true rfl⟩ dX12_ruleText_148) ?_
    obtain ⟨u21, h1, h⟩ := ob_some h
    obtain ⟨hkd, h1⟩ := kd_some h1
    refine v_gov (rn_V C gcX12_266 (RX12, TX12, 33) rfl rfl (by decide) hkd (mX12_writePattern h1) ⟨rfl, rfl⟩ rfl ⟨Nat.le_of_ble_eq_true rfl, Nat.le_of_ble_eq_true rfl⟩ (rest := []) rfl (Nat.le_of_ble_eq_true rfl) ⟨Nat.le_of_ble_eq_true rfl, Nat.le_of_ble_eq_true rfl⟩ dX12_ruleText_151) ?_
    refine v_sub [(0, .ref (bs + a0)), (3, .int x3)] [0, 3] rfl ?_
    exact wX12_ruleText_154 C hin h
set_option maxRecDepth 100000 in
set_option maxHeartbeats 4000000 in
theorem wX12_ruleText_60 {X : UX} {D : UD} {bs tw : Nat} {u0 : UH} {r : Int32} {v : UH} (C : uCx X D bs tw cX12_ruleText 5 RX12 (some .int)) (hin : X.2.2.2.2.2.2.2.1.name = "ruleText") {a0 : Nat} {x1 : Int32} {x2 : Int32} {x3 : Int32} {u : UH} (h : fX12_ruleText_60 a0 x1 x2 x3 u = some (r, v)) : VV X D bs u0 rmX12_ruleText 5 0 0 (MQ X.2.2.2.2.2.2.1 (uQi D bs u0 v r) X.2.2.2.2.2.1 X.2.2.2.1 0 0 (uA bs u0)) u 60 [(0, .ref (bs + a0)), (1, .int x1), (2, .int x2), (3, .int x3)] [] := by
  unfold fX12_ruleText_60 at h
  refine v_aload_n C 0 dX12_ruleText_60 rfl rfl ?_
  refine v_bipush C (58 : Int32) dX12_ruleText_61 (by decide) ?_
  obtain ⟨u6, h1, h⟩ := ob_some h
  obtain ⟨hkd, h1⟩ := kd_some h1
  refine v_gov (rn_V C gcX12_260 (RX12, TX12, 33) rfl rfl (by decide) hkd (mX12_write h1) ⟨rfl, rfl⟩ rfl ⟨Nat.le_of_ble_eq_true rfl, Nat.le_of_ble_eq_true rfl⟩ (rest := []) rfl (Nat.le_of_ble_eq_true rfl) ⟨Nat.le_of_ble_eq_true rfl, Nat.le_of_ble_eq_true rfl⟩ dX12_ruleText_63) ?_
  refine v_aload_n C 0 dX12_ruleText_66 rfl rfl ?_
  refine v_aload_n C 0 dX12_ruleText_67 rfl rfl ?_
  refine v_iload_n C 1 dX12_ruleText_68 rfl rfl ?_
  refine v_iload_n C 2 dX12_ruleText_69 rfl rfl ?_
  refine v_iconst C (1 : Int32) dX12_ruleText_70 (by decide) ?_
  obtain ⟨y7, h1, h⟩ := ob_some h
  obtain ⟨hkd, h1⟩ := kd_some h1
  refine v_goi (rn_V C gcX12_114 (RX12, TX12, 33) rfl rfl (by decide) hkd (mX12_of h1) ⟨rfl, rfl⟩ rfl ⟨Nat.le_of_ble_eq_true rfl, Nat.le_of_ble_eq_true rfl⟩ (rest := [.ref (bs + a0)]) rfl (Nat.le_of_ble_eq_true rfl) ⟨Nat.le_of_ble_eq_true rfl, Nat.le_of_ble_eq_true rfl⟩ dX12_ruleText_71) ?_
  refine v_aload_n C 0 dX12_ruleText_74 rfl rfl ?_
  refine v_iload_n C 1 dX12_ruleText_75 rfl rfl ?_
  refine v_iload_n C 2 dX12_ruleText_76 rfl rfl ?_
  refine v_iconst C (2 : Int32) dX12_ruleText_77 (by decide) ?_
  obtain ⟨y8, h1, h⟩ := ob_some h
  obtain ⟨hkd, h1⟩ := kd_some h1
  refine v_goi (rn_V C gcX12_114 (RX12, TX12, 33) rfl rfl (by decide) hkd (mX12_of h1) ⟨rfl, rfl⟩ rfl ⟨Nat.le_of_ble_eq_true rfl, Nat.le_of_ble_eq_true rfl⟩ (rest := [.int y7, .ref (bs + a0)]) rfl (Nat.le_of_ble_eq_true rfl) ⟨Nat.le_of_ble_eq_true rfl, Nat.le_of_ble_eq_true rfl⟩ dX12_ruleText_78) ?_
  obtain ⟨u9, h1, h⟩ := ob_some h
  obtain ⟨hkd, h1⟩ := kd_some h1
  refine v_gov (rn_V C gcX12_266 (RX12, TX12, 33) rfl rfl (by decide) hkd (mX12_writePattern h1) ⟨rfl, rfl⟩ rfl ⟨Nat.le_of_ble_eq_true rfl, Nat.le_of_ble_eq_true rfl⟩ (rest := []) rfl (Nat.le_of_ble_eq_true rfl) ⟨Nat.le_of_ble_eq_true rfl, Nat.le_of_ble_eq_true rfl⟩ dX12_ruleText_81) ?_
  refine v_aload_n C 0 dX12_ruleText_84 rfl rfl ?_
  refine v_iload_n C 1 dX12_ruleText_85 rfl rfl ?_
  refine v_iload_n C 2 dX12_ruleText_86 rfl rfl ?_
  refine v_iconst C (3 : Int32) dX12_ruleText_87 (by decide) ?_
  obtain ⟨y10, h1, h⟩ := ob_some h
  obtain ⟨hkd, h1⟩ := kd_some h1
  refine v_goi (rn_V C gcX12_114 (RX12, TX12, 33) rfl rfl (by decide) hkd (mX12_of h1) ⟨rfl, rfl⟩ rfl ⟨Nat.le_of_ble_eq_true rfl, Nat.le_of_ble_eq_true rfl⟩ (rest := []) rfl (Nat.le_of_ble_eq_true rfl) ⟨Nat.le_of_ble_eq_true rfl, Nat.le_of_ble_eq_true rfl⟩ dX12_ruleText_88) ?_
  refine v_ifne C 103 dX12_ruleText_91 (by decide) h (fun _ h => ?_) (fun _ h => ?_)
  · refine v_aload_n C 0 dX12_ruleText_103 rfl rfl ?_
    refine v_bipush C (62 : Int32) dX12_ruleText_104 (by decide) ?_
    obtain ⟨u11, h1, h⟩ := ob_some h
    obtain ⟨hkd, h1⟩ := kd_some h1
    refine v_gov (rn_V C gcX12_260 (RX12, TX12, 33) rfl rfl (by decide) hkd (mX12_write h1) ⟨rfl, rfl⟩ rfl ⟨Nat.le_of_ble_eq_true rfl, Nat.le_of_ble_eq_true rfl⟩ (rest := []) rfl (Nat.le_of_ble_eq_true rfl) ⟨Nat.le_of_ble_eq_true rfl, Nat.le_of_ble_eq_true rfl⟩ dX12_ruleText_106) ?_
    refine v_aload_n C 0 dX12_ruleText_109 rfl rfl ?_
    refine v_aload_n C 0 dX12_ruleText_110 rfl rfl ?_
    refine v_iload_n C 1 dX12_ruleText_111 rfl rfl ?_
    refine v_iload_n C 2 dX12_ruleText_112 rfl rfl ?_
    refine v_iconst C (3 : Int32) dX12_ruleText_113 (by decide) ?_
    obtain ⟨y12, h1, h⟩ := ob_some h
    obtain ⟨hkd, h1⟩ := kd_some h1
    refine v_goi (rn_V C gcX12_114 (RX12, TX12, 33) rfl rfl (by decide) hkd (mX12_of h1) ⟨rfl, rfl⟩ rfl ⟨Nat.le_of_ble_eq_true rfl, Nat.le_of_ble_eq_true rfl⟩ (rest := [.ref (bs + a0)]) rfl (Nat.le_of_ble_eq_true rfl) ⟨Nat.le_of_ble_eq_true rfl, Nat.le_of_ble_eq_true rfl⟩ dX12_ruleText_114) ?_
    obtain ⟨u13, h1, h⟩ := ob_some h
    obtain ⟨hkd, h1⟩ := kd_some h1
    refine v_gov (rn_V C gcX12_263 (RX12, TX12, 33) rfl rfl (by decide) hkd (mX12_writePorts h1) ⟨rfl, rfl⟩ rfl ⟨Nat.le_of_ble_eq_true rfl, Nat.le_of_ble_eq_true rfl⟩ (rest := []) rfl (Nat.le_of_ble_eq_true rfl) ⟨Nat.le_of_ble_eq_true rfl, Nat.le_of_ble_eq_true rfl⟩ dX12_ruleText_117) ?_
    refine v_sub [(0, .ref (bs + a0)), (1, .int x1), (2, .int x2), (3, .int x3)] [0, 1, 2, 3] rfl ?_
    exact wX12_ruleText_120 C hin h
  · refine v_aload_n C 0 dX12_ruleText_94 rfl rfl ?_
    refine v_bipush C (33 : Int32) dX12_ruleText_95 (by decide) ?_
    obtain ⟨u22, h1, h⟩ := ob_some h
    obtain ⟨hkd, h1⟩ := kd_some h1
    refine v_gov (rn_V C gcX12_260 (RX12, TX12, 33) rfl rfl (by decide) hkd (mX12_write h1) ⟨rfl, rfl⟩ rfl ⟨Nat.le_of_ble_eq_true rfl, Nat.le_of_ble_eq_true rfl⟩ (rest := []) rfl (Nat.le_of_ble_eq_true rfl) ⟨Nat.le_of_ble_eq_true rfl, Nat.le_of_ble_eq_true rfl⟩ dX12_ruleText_97) ?_
    refine v_goto C 120 dX12_ruleText_100 (by decide) ?_
    refine v_sub [(0, .ref (bs + a0)), (1, .int x1), (2, .int x2), (3, .int x3)] [0, 1, 2, 3] rfl ?_
    exact wX12_ruleText_120 C hin h
set_option maxRecDepth 100000 in
set_option maxHeartbeats 4000000 in
theorem mX12_ruleText {l : Launch} {D : UD} {bs : Nat} {a0 : Nat} {x1 : Int32} {x2 : Int32} {x3 : Int32} {u0 : UH} {r : Int32} {v : UH} (h : fX12_ruleText a0 x1 x2 x3 u0 = some (r, v)) : Met l yX12_ruleText (wz yX12_ruleText cX12_ruleText 5 (some .int)) rmX12_ruleText (va_Pc [.ref (bs + a0), .int x1, .int x2, .int x3] (uIn D bs u0)) (uQi D bs u0 v r) 0 0 (uA bs u0) := by
  refine uMet (by decide) (Nat.le_of_ble_eq_true rfl) ?_
  intro X tw hX C hin
  have C : uCx X D bs tw cX12_ruleText 5 RX12 (some .int) := C
  have hin : X.2.2.2.2.2.2.2.1.name = "ruleText" := hin
  refine v_L [(0, .ref (bs + a0)), (1, .int x1), (2, .int x2), (3, .int x3)] rfl ?_
  unfold fX12_ruleText at h
  refine v_aload_n C 0 dX12_ruleText_0 rfl rfl ?_
  refine v_iload_n C 1 dX12_ruleText_1 rfl rfl ?_
  refine v_iload_n C 2 dX12_ruleText_2 rfl rfl ?_
  obtain ⟨y1, h1, h⟩ := ob_some h
  obtain ⟨hkd, h1⟩ := kd_some h1
  refine v_goi (rn_V C gcX12_139 (RX12, TX12, 33) rfl rfl (by decide) hkd (mX12_ruleBarred h1) ⟨rfl, rfl⟩ rfl ⟨Nat.le_of_ble_eq_true rfl, Nat.le_of_ble_eq_true rfl⟩ (rest := []) rfl (Nat.le_of_ble_eq_true rfl) ⟨Nat.le_of_ble_eq_true rfl, Nat.le_of_ble_eq_true rfl⟩ dX12_ruleText_3) ?_
  refine v_istore C [(4, .int y1), (0, .ref (bs + a0)), (1, .int x1), (2, .int x2), (3, .int x3)] dX12_ruleText_6 (by decide) rfl ?_
  refine v_iload C 0 dX12_ruleText_8 rfl ?_
  refine v_ifge C 16 dX12_ruleText_10 (by decide) h (fun _ h => ?_) (fun _ h => ?_)
  · refine v_iload_n C 4 dX12_ruleText_16 rfl rfl ?_
    refine v_ifge C 23 dX12_ruleText_17 (by decide) h (fun _ h => ?_) (fun _ h => ?_)
    · refine v_aload_n C 1 dX12_ruleText_23 rfl rfl ?_
      refine v_iconst C (0 : Int32) dX12_ruleText_24 (by decide) ?_
      refine v_putI C fdX12_257 (fun h => by cases h) dX12_ruleText_25 h (fun u2 h => ?_)
      refine v_aload_n C 1 dX12_ruleText_28 rfl rfl ?_
      refine v_iload_n C 2 dX12_ruleText_29 rfl rfl ?_
      refine v_iload_n C 3 dX12_ruleText_30 rfl rfl ?_
      refine v_iconst C (0 : Int32) dX12_ruleText_31 (by decide) ?_
      obtain ⟨y3, h1, h⟩ := ob_some h
      obtain ⟨hkd, h1⟩ := kd_some h1
      refine v_goi (rn_V C gcX12_114 (RX12, TX12, 33) rfl rfl (by decide) hkd (mX12_of h1) ⟨rfl, rfl⟩ rfl ⟨Nat.le_of_ble_eq_true rfl, Nat.le_of_ble_eq_true rfl⟩ (rest := []) rfl (Nat.le_of_ble_eq_true rfl) ⟨Nat.le_of_ble_eq_true rfl, Nat.le_of_ble_eq_true rfl⟩ dX12_ruleText_32) ?_
      refine v_bipush C (15 : Int32) dX12_ruleText_35 (by decide) ?_
      refine v_icmpne C 49 dX12_ruleText_37 (by decide) h (fun _ h => ?_) (fun _ h => ?_)
      · refine v_aload_n C 1 dX12_ruleText_49 rfl rfl ?_
        refine v_aload_n C 1 dX12_ruleText_50 rfl rfl ?_
        refine v_iload_n C 2 dX12_ruleText_51 rfl rfl ?_
        refine v_iload_n C 3 dX12_ruleText_52 rfl rfl ?_
        refine v_iconst C (0 : Int32) dX12_ruleText_53 (by decide) ?_
        obtain ⟨y4, h1, h⟩ := ob_some h
        obtain ⟨hkd, h1⟩ := kd_some h1
        refine v_goi (rn_V C gcX12_114 (RX12, TX12, 33) rfl rfl (by decide) hkd (mX12_of h1) ⟨rfl, rfl⟩ rfl ⟨Nat.le_of_ble_eq_true rfl, Nat.le_of_ble_eq_true rfl⟩ (rest := [.ref (bs + a0)]) rfl (Nat.le_of_ble_eq_true rfl) ⟨Nat.le_of_ble_eq_true rfl, Nat.le_of_ble_eq_true rfl⟩ dX12_ruleText_54) ?_
        obtain ⟨u5, h1, h⟩ := ob_some h
        obtain ⟨hkd, h1⟩ := kd_some h1
        refine v_gov (rn_V C gcX12_263 (RX12, TX12, 33) rfl rfl (by decide) hkd (mX12_writePorts h1) ⟨rfl, rfl⟩ rfl ⟨Nat.le_of_ble_eq_true rfl, Nat.le_of_ble_eq_true rfl⟩ (rest := []) rfl (Nat.le_of_ble_eq_true rfl) ⟨Nat.le_of_ble_eq_true rfl, Nat.le_of_ble_eq_true rfl⟩ dX12_ruleText_57) ?_
        refine v_sub [(0, .ref (bs + a0)), (1, .int x1), (2, .int x2), (3, .int x3)] [1, 2, 3, 4] rfl ?_
        exact wX12_ruleText_60 C hin h
      · refine v_aload_n C 1 dX12_ruleText_40 rfl rfl ?_
        refine v_bipush C (42 : Int32) dX12_ruleText_41 (by decide) ?_
        obtain ⟨u23, h1, h⟩ := ob_some h
        obtain ⟨hkd, h1⟩ := kd_some h1
        refine v_gov (rn_V C gcX12_260 (RX12, TX12, 33) rfl rfl (by decide) hkd (mX12_write h1) ⟨rfl, rfl⟩ rfl ⟨Nat.le_of_ble_eq_true rfl, Nat.le_of_ble_eq_true rfl⟩ (rest := []) rfl (Nat.le_of_ble_eq_true rfl) ⟨Nat.le_of_ble_eq_true rfl, Nat.le_of_ble_eq_true rfl⟩ dX12_ruleText_43) ?_
        refine v_goto C 60 dX12_ruleText_46 (by decide) ?_
        refine v_sub [(0, .ref (bs + a0)), (1, .int x1), (2, .int x2), (3, .int x3)] [1, 2, 3, 4] rfl ?_
        exact wX12_ruleText_60 C hin h
    · refine v_bipush C (-3 : Int32) dX12_ruleText_20 (by decide) ?_
      exact v_iret C dX12_ruleText_22 (Prod.mk.inj (Option.some.inj h)).2 (Prod.mk.inj (Option.some.inj h)).1
  · refine v_iload C 0 dX12_ruleText_13 rfl ?_
    exact v_iret C dX12_ruleText_15 (Prod.mk.inj (Option.some.inj h)).2 (Prod.mk.inj (Option.some.inj h)).1
