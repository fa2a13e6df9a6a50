set_option maxRecDepth 100000 in
set_option maxHeartbeats 4000000 in
theorem wX1_endingBehindAll_B11 {X : UX} {D : UD} {bs tw : Nat} {u0 : UH} {r : Int64} (C : uCx X D bs tw cX1_endingBehindAll 7 RX1 (some .long)) (hin : X.2.2.2.2.2.2.2.1.name = "endingBehindAll") {a0 : Nat} {x1 : Int32} {x2 : Int32}  {G : Int64 → Prop} {k : Int64 → Int32 → Option Int64} (hk : ∀ (x3 : Int64) (x5 : Int32)  e, k x3 x5  = some e → G e → VV X D bs u0 rmX1_endingBehindAll 7 0 0 (MQ X.2.2.2.2.2.2.1 (uQl D bs u0 u0 r) X.2.2.2.2.2.1 X.2.2.2.1 0 0 (uA bs u0)) u0 11 [(0, .ref (bs + a0)), (1, .int x1), (2, .int x2), (3, .long x3), (5, .int x5)] []) (hex : ∀ (x3 : Int64) , G x3 → VV X D bs u0 rmX1_endingBehindAll 7 0 0 (MQ X.2.2.2.2.2.2.1 (uQl D bs u0 u0 r) X.2.2.2.2.2.1 X.2.2.2.1 0 0 (uA bs u0)) u0 64 [(3, .long x3)] [])  : ∀ (x3 : Int64) (x5 : Int32)  e, fX1_endingBehindAll_B11 a0 x1 x2 u0 k x3 x5  = some e → G e → VV X D bs u0 rmX1_endingBehindAll 7 0 0 (MQ X.2.2.2.2.2.2.1 (uQl D bs u0 u0 r) X.2.2.2.2.2.1 X.2.2.2.1 0 0 (uA bs u0)) u0 11 [(0, .ref (bs + a0)), (1, .int x1), (2, .int x2), (3, .long x3), (5, .int x5)] [] := by
  intro x3 x5  e h g
  unfold fX1_endingBehindAll_B11 at h
  refine v_iload C 4 dX1_endingBehindAll_11 rfl ?_
  refine v_iconst C (4 : Int32) dX1_endingBehindAll_13 (by decide) ?_
  refine v_icmpge C 64 dX1_endingBehindAll_14 (by decide) h (fun _ h => ?_) (fun _ h => ?_)
  · refine v_sub [(3, .long x3)] [3] rfl ?_
    exact hex x3 ((Option.some.inj h).symm ▸ g)
  · refine v_aload_n C 0 dX1_endingBehindAll_17 rfl rfl ?_
    refine v_getR C fdX1_15 dX1_endingBehindAll_18 h (fun b3 h => ?_)
    refine v_getR C fdX1_75 dX1_endingBehindAll_21 h (fun b4 h => ?_)
    refine v_iload_n C 1 dX1_endingBehindAll_24 rfl rfl ?_
    refine v_iload C 4 dX1_endingBehindAll_25 rfl ?_
    obtain ⟨y5, h1, h⟩ := ob_some h
    refine v_goi (rn_N C gcX1_79 (mX11_placeOf h1) ⟨rfl, rfl⟩ rfl ⟨Nat.le_of_ble_eq_true rfl, Nat.le_of_ble_eq_true rfl⟩ (rest := [.ref (bs + b4)]) rfl (Nat.le_of_ble_eq_true rfl) ⟨Nat.le_of_ble_eq_true rfl, Nat.le_of_ble_eq_true rfl⟩ dX1_endingBehindAll_27) ?_
    refine v_ldI C dX1_endingBehindAll_30 h (fun y6 h => ?_)
    refine v_istore C [(6, .int y6), (0, .ref (bs + a0)), (1, .int x1), (2, .int x2), (3, .long x3), (5, .int x5)] dX1_endingBehindAll_31 (by decide) rfl ?_
    refine v_iload_n C 3 dX1_endingBehindAll_33 rfl rfl ?_
    refine v_iload C 5 dX1_endingBehindAll_34 rfl ?_
    obtain ⟨y7, h1, h⟩ := ob_some h
    refine v_goi (rn_N C gcX1_83 (mX11_hasPort h1) ⟨rfl, rfl⟩ rfl ⟨Nat.le_of_ble_eq_true rfl, Nat.le_of_ble_eq_true rfl⟩ (rest := []) rfl (Nat.le_of_ble_eq_true rfl) ⟨Nat.le_of_ble_eq_true rfl, Nat.le_of_ble_eq_true rfl⟩ dX1_endingBehindAll_36) ?_
    refine v_ifeq C 58 dX1_endingBehindAll_39 (by decide) h (fun _ h => ?_) (fun _ h => ?_)
    · refine v_iinc C 5 (x5 + (1 : Int32)) [(5, .int (x5 + (1 : Int32))), (6, .int y6), (0, .ref (bs + a0)), (1, .int x1), (2, .int x2), (3, .long x3)] dX1_endingBehindAll_58 rfl rfl (by decide) rfl ?_
      refine v_goto C 11 dX1_endingBehindAll_61 (by decide) ?_
      refine v_sub [(0, .ref (bs + a0)), (1, .int x1), (2, .int x2), (3, .long x3), (5, .int (x5 + (1 : Int32)))] [2, 3, 4, 5, 0] rfl ?_
      exact hk x3 (x5 + (1 : Int32)) _ h g
    · refine v_iload C 0 dX1_endingBehindAll_42 rfl ?_
      refine v_iconst C (-1 : Int32) dX1_endingBehindAll_44 (by decide) ?_
      refine v_icmpeq C 58 dX1_endingBehindAll_45 (by decide) h (fun _ h => ?_) (fun _ h => ?_)
      · refine v_iinc C 5 (x5 + (1 : Int32)) [(5, .int (x5 + (1 : Int32))), (6, .int y6), (0, .ref (bs + a0)), (1, .int x1), (2, .int x2), (3, .long x3)] dX1_endingBehindAll_58 rfl rfl (by decide) rfl ?_
        refine v_goto C 11 dX1_endingBehindAll_61 (by decide) ?_
        refine v_sub [(0, .ref (bs + a0)), (1, .int x1), (2, .int x2), (3, .long x3), (5, .int (x5 + (1 : Int32)))] [2, 3, 4, 5, 0] rfl ?_
        exact hk x3 (x5 + (1 : Int32)) _ h g
      · refine v_lload_n C 4 dX1_endingBehindAll_48 rfl rfl ?_
        refine v_aload_n C 1 dX1_endingBehindAll_49 rfl rfl ?_
        refine v_getR C fdX1_9 dX1_endingBehindAll_50 h (fun b8 h => ?_)
        refine v_iload C 0 dX1_endingBehindAll_53 rfl ?_
        refine v_ldJ C dX1_endingBehindAll_55 h (fun y9 h => ?_)
        refine v_land C dX1_endingBehindAll_56 ?_
        refine v_ltl h (fun y10 h => ?_)
        refine v_lstore_n C [(3, .long y10), (6, .int y6), (0, .ref (bs + a0)), (1, .int x1), (2, .int x2), (5, .int x5)] dX1_endingBehindAll_57 rfl (by decide) rfl ?_
        refine v_iinc C 5 (x5 + (1 : Int32)) [(5, .int (x5 + (1 : Int32))), (3, .long y10), (6, .int y6), (0, .ref (bs + a0)), (1, .int x1), (2, .int x2)] dX1_endingBehindAll_58 rfl rfl (by decide) rfl ?_
        refine v_goto C 11 dX1_endingBehindAll_61 (by decide) ?_
        refine v_sub [(0, .ref (bs + a0)), (1, .int x1), (2, .int x2), (3, .long y10), (5, .int (x5 + (1 : Int32)))] [3, 4, 5, 1, 0] rfl ?_
        exact hk y10 (x5 + (1 : Int32)) _ h g
set_option maxRecDepth 100000 in
set_option maxHeartbeats 4000000 in
theorem mX1_endingBehindAll {l : Launch} {D : UD} {bs : Nat} {a0 : Nat} {x1 : Int32} {x2 : Int32} {u0 : UH} {r : Int64} (h : fX1_endingBehindAll a0 x1 x2 u0 = some r) : Met l yX1_endingBehindAll (wz yX1_endingBehindAll cX1_endingBehindAll 7 (some .long)) rmX1_endingBehindAll (va_Pc [.ref (bs + a0), .int x1, .int x2] (uIn D bs u0)) (uQl D bs u0 u0 r) 0 0 (uA bs u0) := by
  refine uMet (by decide) (Nat.le_of_ble_eq_true rfl) ?_
  intro X tw hX C hin
  have C : uCx X D bs tw cX1_endingBehindAll 7 RX1 (some .long) := C
  have hin : X.2.2.2.2.2.2.2.1.name = "endingBehindAll" := hin
  refine v_L [(0, .ref (bs + a0)), (1, .int x1), (2, .int x2)] rfl ?_
  unfold fX1_endingBehindAll at h
  refine v_aload_n C 0 dX1_endingBehindAll_0 rfl rfl ?_
  refine v_getR C fdX1_15 dX1_endingBehindAll_1 h (fun b1 h => ?_)
  obtain ⟨y2, h1, h⟩ := ob_some h
  obtain ⟨hkd, h1⟩ := kd_some h1
  refine v_gol (rn_V C gcX1_43 (RX4, TX4, 4) rfl rfl (by decide) hkd (mX4_allHeaders h1) ⟨rfl, rfl⟩ rfl ⟨Nat.le_of_ble_eq_true rfl, Nat.le_of_ble_eq_true rfl⟩ (rest := []) rfl (Nat.le_of_ble_eq_true rfl) ⟨Nat.le_of_ble_eq_true rfl, Nat.le_of_ble_eq_true rfl⟩ dX1_endingBehindAll_4) ?_
  refine v_lstore_n C [(3, .long y2), (0, .ref (bs + a0)), (1, .int x1), (2, .int x2)] dX1_endingBehindAll_7 rfl (by decide) rfl ?_
  refine v_iconst C (0 : Int32) dX1_endingBehindAll_8 (by decide) ?_
  refine v_istore C [(5, .int (0 : Int32)), (3, .long y2), (0, .ref (bs + a0)), (1, .int x1), (2, .int x2)] dX1_endingBehindAll_9 (by decide) rfl ?_
  refine v_sub [(0, .ref (bs + a0)), (1, .int x1), (2, .int x2), (3, .long y2), (5, .int (0 : Int32))] [2, 3, 4, 1, 0] rfl ?_
  refine it2_O (V := fun x3 x5 => VV X D bs u0 rmX1_endingBehindAll 7 0 0 (MQ X.2.2.2.2.2.2.1 (uQl D bs u0 u0 r) X.2.2.2.2.2.1 X.2.2.2.1 0 0 (uA bs u0)) u0 11 [(0, .ref (bs + a0)), (1, .int x1), (2, .int x2), (3, .long x3), (5, .int x5)] []) h (fun k_ hk_ => wX1_endingBehindAll_B11 C hin hk_ ?_ )
  intro z12 h
  try dsimp only [Sum.elim_inl] at h
  refine v_lload_n C 0 dX1_endingBehindAll_64 rfl rfl ?_
  exact v_lret C dX1_endingBehindAll_65 rfl (Option.some.inj h)
set_option maxRecDepth 100000 in
set_option maxHeartbeats 4000000 in
theorem wX6_leadingInto_B5 {X : UX} {D : UD} {bs tw : Nat} {u0 : UH} {r : Int64} (C : uCx X D bs tw cX6_leadingInto 11 RX6 (some .long)) (hin : X.2.2.2.2.2.2.2.1.name = "leadingInto") {a0 : Nat}  {G : Int64 → Prop} {k : Int64 → Int32 → Option Int64} (hk : ∀ (x3 : Int64) (x5 : Int32)  e, k x3 x5  = some e → G e → VV X D bs u0 rmX6_leadingInto 11 0 0 (MQ X.2.2.2.2.2.2.1 (uQl D bs u0 u0 r) X.2.2.2.2.2.1 X.2.2.2.1 0 0 (uA bs u0)) u0 5 [(0, .ref (bs + a0)), (3, .long x3), (5, .int x5)] []) (hex : ∀ (x3 : Int64) , G x3 → VV X D bs u0 rmX6_leadingInto 11 0 0 (MQ X.2.2.2.2.2.2.1 (uQl D bs u0 u0 r) X.2.2.2.2.2.1 X.2.2.2.1 0 0 (uA bs u0)) u0 91 [(3, .long x3)] [])  : ∀ (x3 : Int64) (x5 : Int32)  e, fX6_leadingInto_B5 a0 u0 k x3 x5  = some e → G e → VV X D bs u0 rmX6_leadingInto 11 0 0 (MQ X.2.2.2.2.2.2.1 (uQl D bs u0 u0 r) X.2.2.2.2.2.1 X.2.2.2.1 0 0 (uA bs u0)) u0 5 [(0, .ref (bs + a0)), (3, .long x3), (5, .int x5)] [] := by
  intro x3 x5  e h g
  unfold fX6_leadingInto_B5 at h
  refine v_iload C 2 dX6_leadingInto_5 rfl ?_
  refine v_iconst C (5 : Int32) dX6_leadingInto_7 (by decide) ?_
  refine v_icmpge C 91 dX6_leadingInto_8 (by decide) h (fun _ h => ?_) (fun _ h => ?_)
  · refine v_sub [(3, .long x3)] [1] rfl ?_
    exact hex x3 ((Option.some.inj h).symm ▸ g)
  · refine v_aload_n C 0 dX6_leadingInto_11 rfl rfl ?_
    refine v_getI C fdX6_24 dX6_leadingInto_12 h (fun y1 h => ?_)
    refine v_iload C 2 dX6_leadingInto_15 rfl ?_
    refine v_ishr C dX6_leadingInto_17 ?_
    refine v_iconst C (1 : Int32) dX6_leadingInto_18 (by decide) ?_
    refine v_iand C dX6_leadingInto_19 ?_
    refine v_ifeq C 85 dX6_leadingInto_20 (by decide) h (fun _ h => ?_) (fun _ h => ?_)
    · refine v_iinc C 2 (x5 + (1 : Int32)) [(5, .int (x5 + (1 : Int32))), (0, .ref (bs + a0)), (3, .long x3)] dX6_leadingInto_85 rfl rfl (by decide) rfl ?_
      refine v_goto C 5 dX6_leadingInto_88 (by decide) ?_
      refine v_sub [(0, .ref (bs + a0)), (3, .long x3), (5, .int (x5 + (1 : Int32)))] [1, 2, 0] rfl ?_
      exact hk x3 (x5 + (1 : Int32)) _ h g
    · refine v_lload_n C 1 dX6_leadingInto_23 rfl rfl ?_
      refine v_getsN C tw588 dX6_leadingInto_24 ?_
      refine v_iload C 2 dX6_leadingInto_27 rfl ?_
      refine v_wb C dX6_leadingInto_29 h (fun y2 h => ?_)
      refine v_land C dX6_leadingInto_30 ?_
      refine v_ltl h (fun y3 h => ?_)
      refine v_lstore C [(6, .long y3), (0, .ref (bs + a0)), (3, .long x3), (5, .int x5)] dX6_leadingInto_31 (by decide) rfl ?_
      refine v_lload_n C 2 dX6_leadingInto_33 rfl rfl ?_
      refine v_getsN C tw588 dX6_leadingInto_34 ?_
      refine v_iload C 3 dX6_leadingInto_37 rfl ?_
      refine v_wb C dX6_leadingInto_39 h (fun y4 h => ?_)
      refine v_ldc2 C (-1 : Int64) tw589 dX6_leadingInto_40 ?_
      refine v_lxor C dX6_leadingInto_43 ?_
      refine v_land C dX6_leadingInto_44 ?_
      refine v_ltl h (fun y5 h => ?_)
      refine v_lstore C [(8, .long y5), (6, .long y3), (0, .ref (bs + a0)), (3, .long x3), (5, .int x5)] dX6_leadingInto_45 (by decide) rfl ?_
      refine v_iconst C (1 : Int32) dX6_leadingInto_47 (by decide) ?_
      refine v_iload C 4 dX6_leadingInto_48 rfl ?_
      refine v_ishl C dX6_leadingInto_50 ?_
      refine v_lti h (fun y6 h => ?_)
      refine v_istore C [(10, .int y6), (8, .long y5), (6, .long y3), (0, .ref (bs + a0)), (3, .long x3), (5, .int x5)] dX6_leadingInto_51 (by decide) rfl ?_
      refine v_aload_n C 3 dX6_leadingInto_53 rfl rfl ?_
      refine v_getI C fdX6_27 dX6_leadingInto_54 h (fun y7 h => ?_)
      refine v_iload C 5 dX6_leadingInto_57 rfl ?_
      refine v_ishr C dX6_leadingInto_59 ?_
      refine v_iconst C (1 : Int32) dX6_leadingInto_60 (by decide) ?_
      refine v_iand C dX6_leadingInto_61 ?_
      refine v_ifeq C 76 dX6_leadingInto_62 (by decide) h (fun _ h => ?_) (fun _ h => ?_)
      · refine v_lload C 1 dX6_leadingInto_76 rfl ?_
        refine v_lload C 1 dX6_leadingInto_78 rfl ?_
        refine v_iload C 0 dX6_leadingInto_80 rfl ?_
        refine v_lshl C dX6_leadingInto_82 ?_
        refine v_lor C dX6_leadingInto_83 ?_
        refine v_ltl h (fun y8 h => ?_)
        refine v_lstore_n C [(3, .long y8), (10, .int y6), (8, .long y5), (6, .long y3), (0, .ref (bs + a0)), (5, .int x5)] dX6_leadingInto_84 rfl (by decide) rfl ?_
        refine v_iinc C 5 (x5 + (1 : Int32)) [(5, .int (x5 + (1 : Int32))), (3, .long y8), (10, .int y6), (8, .long y5), (6, .long y3), (0, .ref (bs + a0))] dX6_leadingInto_85 rfl rfl (by decide) rfl ?_
        refine v_goto C 5 dX6_leadingInto_88 (by decide) ?_
        refine v_sub [(0, .ref (bs + a0)), (3, .long y8), (5, .int (x5 + (1 : Int32)))] [5, 1, 0] rfl ?_
        exact hk y8 (x5 + (1 : Int32)) _ h g
      · refine v_lload C 2 dX6_leadingInto_65 rfl ?_
        refine v_lload C 2 dX6_leadingInto_67 rfl ?_
        refine v_iload C 0 dX6_leadingInto_69 rfl ?_
        refine v_lushr C dX6_leadingInto_71 ?_
        refine v_lor C dX6_leadingInto_72 ?_
        refine v_goto C 84 dX6_leadingInto_73 (by decide) ?_
        refine v_ltl h (fun y9 h => ?_)
        refine v_lstore_n C [(3, .long y9), (10, .int y6), (8, .long y5), (6, .long y3), (0, .ref (bs + a0)), (5, .int x5)] dX6_leadingInto_84 rfl (by decide) rfl ?_
        refine v_iinc C 5 (x5 + (1 : Int32)) [(5, .int (x5 + (1 : Int32))), (3, .long y9), (10, .int y6), (8, .long y5), (6, .long y3), (0, .ref (bs + a0))] dX6_leadingInto_85 rfl rfl (by decide) rfl ?_
        refine v_goto C 5 dX6_leadingInto_88 (by decide) ?_
        refine v_sub [(0, .ref (bs + a0)), (3, .long y9), (5, .int (x5 + (1 : Int32)))] [5, 1, 0] rfl ?_
        exact hk y9 (x5 + (1 : Int32)) _ h g
set_option maxRecDepth 100000 in
set_option maxHeartbeats 4000000 in
theorem mX6_leadingInto {l : Launch} {D : UD} {bs : Nat} {a0 : Nat} {x1 : Int64} {u0 : UH} {r : Int64} (h : fX6_leadingInto a0 x1 u0 = some r) : Met l yX6_leadingInto (wz yX6_leadingInto cX6_leadingInto 11 (some .long)) rmX6_leadingInto (va_Pc [.ref (bs + a0), .long x1] (uIn D bs u0)) (uQl D bs u0 u0 r) 0 0 (uA bs u0) := by
  refine uMet (by decide) (Nat.le_of_ble_eq_true rfl) ?_
  intro X tw hX C hin
  have C : uCx X D bs tw cX6_leadingInto 11 RX6 (some .long) := C
  have hin : X.2.2.2.2.2.2.2.1.name = "leadingInto" := hin
  refine v_L [(0, .ref (bs + a0)), (1, .long x1)] rfl ?_
  unfold fX6_leadingInto at h
  refine v_lload_n C 1 dX6_leadingInto_0 rfl rfl ?_
  refine v_lstore_n C [(3, .long x1), (0, .ref (bs + a0)), (1, .long x1)] dX6_leadingInto_1 rfl (by decide) rfl ?_
  refine v_iconst C (0 : Int32) dX6_leadingInto_2 (by decide) ?_
  refine v_istore C [(5, .int (0 : Int32)), (3, .long x1), (0, .ref (bs + a0)), (1, .long x1)] dX6_leadingInto_3 (by decide) rfl ?_
  refine v_sub [(0, .ref (bs + a0)), (3, .long x1), (5, .int (0 : Int32))] [2, 1, 0] rfl ?_
  refine it2_O (V := fun x3 x5 => VV X D bs u0 rmX6_leadingInto 11 0 0 (MQ X.2.2.2.2.2.2.1 (uQl D bs u0 u0 r) X.2.2.2.2.2.1 X.2.2.2.1 0 0 (uA bs u0)) u0 5 [(0, .ref (bs + a0)), (3, .long x3), (5, .int x5)] []) h (fun k_ hk_ => wX6_leadingInto_B5 C hin hk_ ?_ )
  intro z11 h
  try dsimp only [Sum.elim_inl] at h
  refine v_lload_n C 0 dX6_leadingInto_91 rfl rfl ?_
  exact v_lret C dX6_leadingInto_92 rfl (Option.some.inj h)
set_option maxRecDepth 100000 in
set_option maxHeartbeats 4000000 in
theorem wX1_ending_B29 {X : UX} {D : UD} {bs tw : Nat} {u0 : UH} {r : Int64} (C : uCx X D bs tw cX1_ending 12 RX1 (some .long)) (hin : X.2.2.2.2.2.2.2.1.name = "ending") {a0 : Nat} {x1 : Int32} {x2 : Int32} {a3 : Nat}  {G : (Int64 × Int64) → Prop} {k : Int64 → Int64 → Int32 → Option (Int64 × Int64)} (hk : ∀ (x4 : Int64) (x6 : Int64) (x8 : Int32)  e, k x4 x6 x8  = some e → G e → VV X D bs u0 rmX1_ending 12 0 0 (MQ X.2.2.2.2.2.2.1 (uQl D bs u0 u0 r) X.2.2.2.2.2.1 X.2.2.2.1 0 0 (uA bs u0)) u0 29 [(0, .ref (bs + a0)), (1, .int x1), (2, .int x2), (3, .ref (bs + a3)), (4, .long x4), (6, .long x6), (8, .int x8)] []) (hex : ∀ (x4 : Int64) (x6 : Int64) , G (x4, x6) → VV X D bs u0 rmX1_ending 12 0 0 (MQ X.2.2.2.2.2.2.1 (uQl D bs u0 u0 r) X.2.2.2.2.2.1 X.2.2.2.1 0 0 (uA bs u0)) u0 99 [(4, .long x4), (6, .long x6)] [])  : ∀ (x4 : Int64) (x6 : Int64) (x8 : Int32)  e, fX1_ending_B29 a0 x1 x2 a3 u0 k x4 x6 x8  = some e → G e → VV X D bs u0 rmX1_ending 12 0 0 (MQ X.2.2.2.2.2.2.1 (uQl D bs u0 u0 r) X.2.2.2.2.2.1 X.2.2.2.1 0 0 (uA bs u0)) u0 29 [(0, .ref (bs + a0)), (1, .int x1), (2, .int x2), (3, .ref (bs + a3)), (4, .long x4), (6, .long x6), (8, .int x8)] [] := by
  intro x4 x6 x8  e h g
  unfold fX1_ending_B29 at h
  refine v_iload C 6 dX1_ending_29 rfl ?_
  refine v_aload_n C 3 dX1_ending_31 rfl rfl ?_
  refine v_getI C fdX1_47 dX1_ending_32 h (fun y7 h => ?_)
  refine v_icmpge C 99 dX1_ending_35 (by decide) h (fun _ h => ?_) (fun _ h => ?_)
  · refine v_sub [(4, .long x4), (6, .long x6)] [4, 5] rfl ?_
    exact hex x4 x6 ((Option.some.inj h).symm ▸ g)
  · refine v_aload_n C 3 dX1_ending_38 rfl rfl ?_
    refine v_getR C fdX1_53 dX1_ending_39 h (fun b8 h => ?_)
    refine v_iload C 6 dX1_ending_42 rfl ?_
    refine v_ldR C 25 _ rfl (by decide) dX1_ending_44 h (fun b9 h => ?_)
    refine v_astore C [(9, .ref (bs + b9)), (0, .ref (bs + a0)), (1, .int x1), (2, .int x2), (3, .ref (bs + a3)), (4, .long x4), (6, .long x6), (8, .int x8)] dX1_ending_45 (by decide) rfl ?_
    refine v_aload C 0 dX1_ending_47 rfl ?_
    refine v_iload_n C 2 dX1_ending_49 rfl rfl ?_
    refine v_iconst C (4 : Int32) dX1_ending_50 (by decide) ?_
    refine v_irem C dX1_ending_51 (by decide) ?_
    refine v_lload C 5 dX1_ending_52 rfl ?_
    obtain ⟨y10, h1, h⟩ := ob_some h
    obtain ⟨hkd, h1⟩ := kd_some h1
    refine v_gol (rn_V C gcX1_57 (RX6, TX6, 8) rfl rfl (by decide) hkd (mX6_taken h1) ⟨rfl, rfl⟩ rfl ⟨Nat.le_of_ble_eq_true rfl, Nat.le_of_ble_eq_true rfl⟩ (rest := []) rfl (Nat.le_of_ble_eq_true rfl) ⟨Nat.le_of_ble_eq_true rfl, Nat.le_of_ble_eq_true rfl⟩ dX1_ending_54) ?_
    refine v_lstore C [(10, .long y10), (9, .ref (bs + b9)), (0, .ref (bs + a0)), (1, .int x1), (2, .int x2), (3, .ref (bs + a3)), (4, .long x4), (6, .long x6), (8, .int x8)] dX1_ending_57 (by decide) rfl ?_
    refine v_lload C 6 dX1_ending_59 rfl ?_
    refine v_lload C 0 dX1_ending_61 rfl ?_
    refine v_ldc2 C (-1 : Int64) tw723 dX1_ending_63 ?_
    refine v_lxor C dX1_ending_66 ?_
    refine v_land C dX1_ending_67 ?_
    refine v_ltl h (fun y11 h => ?_)
    refine v_lstore C [(4, .long y11), (10, .long y10), (9, .ref (bs + b9)), (0, .ref (bs + a0)), (1, .int x1), (2, .int x2), (3, .ref (bs + a3)), (6, .long x6), (8, .int x8)] dX1_ending_68 (by decide) rfl ?_
    refine v_lload C 7 dX1_ending_70 rfl ?_
    refine v_lload C 1 dX1_ending_72 rfl ?_
    refine v_aload C 2 dX1_ending_74 rfl ?_
    refine v_aload_n C 3 dX1_ending_76 rfl rfl ?_
    refine v_iload_n C 5 dX1_ending_77 rfl rfl ?_
    refine v_aload C 2 dX1_ending_78 rfl ?_
    refine v_getI C fdX1_65 dX1_ending_80 h (fun y12 h => ?_)
    obtain ⟨y13, h1, h⟩ := ob_some h
    obtain ⟨hkd, h1⟩ := kd_some h1
    refine v_gol (rn_V C gcX1_68 (RX1, TX1, 2) rfl rfl (by decide) hkd (mX1_endingBehindAll h1) ⟨rfl, rfl⟩ rfl ⟨Nat.le_of_ble_eq_true rfl, Nat.le_of_ble_eq_true rfl⟩ (rest := [.ref (bs + b9), .long y10, .long x6]) rfl (Nat.le_of_ble_eq_true rfl) ⟨Nat.le_of_ble_eq_true rfl, Nat.le_of_ble_eq_true rfl⟩ dX1_ending_83) ?_
    obtain ⟨y14, h1, h⟩ := ob_some h
    obtain ⟨hkd, h1⟩ := kd_some h1
    refine v_gol (rn_V C gcX1_71 (RX6, TX6, 8) rfl rfl (by decide) hkd (mX6_leadingInto h1) ⟨rfl, rfl⟩ rfl ⟨Nat.le_of_ble_eq_true rfl, Nat.le_of_ble_eq_true rfl⟩ (rest := [.long y10, .long x6]) rfl (Nat.le_of_ble_eq_true rfl) ⟨Nat.le_of_ble_eq_true rfl, Nat.le_of_ble_eq_true rfl⟩ dX1_ending_86) ?_
    refine v_land C dX1_ending_89 ?_
    refine v_lor C dX1_ending_90 ?_
    refine v_ltl h (fun y15 h => ?_)
    refine v_lstore C [(6, .long y15), (4, .long y11), (10, .long y10), (9, .ref (bs + b9)), (0, .ref (bs + a0)), (1, .int x1), (2, .int x2), (3, .ref (bs + a3)), (8, .int x8)] dX1_ending_91 (by decide) rfl ?_
    refine v_iinc C 8 (x8 + (1 : Int32)) [(8, .int (x8 + (1 : Int32))), (6, .long y15), (4, .long y11), (10, .long y10), (9, .ref (bs + b9)), (0, .ref (bs + a0)), (1, .int x1), (2, .int x2), (3, .ref (bs + a3))] dX1_ending_93 rfl rfl (by decide) rfl ?_
    refine v_goto C 29 dX1_ending_96 (by decide) ?_
    refine v_sub [(0, .ref (bs + a0)), (1, .int x1), (2, .int x2), (3, .ref (bs + a3)), (4, .long y11), (6, .long y15), (8, .int (x8 + (1 : Int32)))] [5, 6, 7, 8, 2, 1, 0] rfl ?_
    exact hk y11 y15 (x8 + (1 : Int32)) _ h g
set_option maxRecDepth 100000 in
set_option maxHeartbeats 4000000 in
theorem mX1_ending {l : Launch} {D : UD} {bs : Nat} {a0 : Nat} {x1 : Int32} {u0 : UH} {r : Int64} (h : fX1_ending a0 x1 u0 = some r) : Met l yX1_ending (wz yX1_ending cX1_ending 12 (some .long)) rmX1_ending (va_Pc [.ref (bs + a0), .int x1] (uIn D bs u0)) (uQl D bs u0 u0 r) 0 0 (uA bs u0) := by
  refine uMet (by decide) (Nat.le_of_ble_eq_true rfl) ?_
  intro X tw hX C hin
  have C : uCx X D bs tw cX1_ending 12 RX1 (some .long) := C
  have hin : X.2.2.2.2.2.2.2.1.name = "ending" := hin
  refine v_L [(0, .ref (bs + a0)), (1, .int x1)] rfl ?_
  unfold fX1_ending at h
  refine v_iload_n C 1 dX1_ending_0 rfl rfl ?_
  refine v_iconst C (4 : Int32) dX1_ending_1 (by decide) ?_
  refine v_idiv C dX1_ending_2 (by decide) ?_
  refine v_lti h (fun y1 h => ?_)
  refine v_istore_n C [(2, .int y1), (0, .ref (bs + a0)), (1, .int x1)] dX1_ending_3 rfl (by decide) rfl ?_
  refine v_aload_n C 1 dX1_ending_4 rfl rfl ?_
  refine v_getR C fdX1_15 dX1_ending_5 h (fun b2 h => ?_)
  refine v_getR C fdX1_37 dX1_ending_8 h (fun b3 h => ?_)
  refine v_iload_n C 0 dX1_ending_11 rfl rfl ?_
  refine v_ldR C 26 _ rfl (by decide) dX1_ending_12 h (fun b4 h => ?_)
  refine v_astore_n C [(3, .ref (bs + b4)), (2, .int y1), (0, .ref (bs + a0)), (1, .int x1)] dX1_ending_13 rfl (by decide) rfl ?_
  refine v_aload_n C 2 dX1_ending_14 rfl rfl ?_
  refine v_getR C fdX1_15 dX1_ending_15 h (fun b5 h => ?_)
  obtain ⟨y6, h1, h⟩ := ob_some h
  obtain ⟨hkd, h1⟩ := kd_some h1
  refine v_gol (rn_V C gcX1_43 (RX4, TX4, 4) rfl rfl (by decide) hkd (mX4_allHeaders h1) ⟨rfl, rfl⟩ rfl ⟨Nat.le_of_ble_eq_true rfl, Nat.le_of_ble_eq_true rfl⟩ (rest := []) rfl (Nat.le_of_ble_eq_true rfl) ⟨Nat.le_of_ble_eq_true rfl, Nat.le_of_ble_eq_true rfl⟩ dX1_ending_18) ?_
  refine v_lstore C [(4, .long y6), (3, .ref (bs + b4)), (2, .int y1), (0, .ref (bs + a0)), (1, .int x1)] dX1_ending_21 (by decide) rfl ?_
  refine v_lconst C (0 : Int64) dX1_ending_23 (by decide) ?_
  refine v_lstore C [(6, .long (0 : Int64)), (4, .long y6), (3, .ref (bs + b4)), (2, .int y1), (0, .ref (bs + a0)), (1, .int x1)] dX1_ending_24 (by decide) rfl ?_
  refine v_iconst C (0 : Int32) dX1_ending_26 (by decide) ?_
  refine v_istore C [(8, .int (0 : Int32)), (6, .long (0 : Int64)), (4, .long y6), (3, .ref (bs + b4)), (2, .int y1), (0, .ref (bs + a0)), (1, .int x1)] dX1_ending_27 (by decide) rfl ?_
  refine v_sub [(0, .ref (bs + a0)), (1, .int x1), (2, .int y1), (3, .ref (bs + b4)), (4, .long y6), (6, .long (0 : Int64)), (8, .int (0 : Int32))] [5, 6, 4, 3, 2, 1, 0] rfl ?_
  refine it3_O (V := fun x4 x6 x8 => VV X D bs u0 rmX1_ending 12 0 0 (MQ X.2.2.2.2.2.2.1 (uQl D bs u0 u0 r) X.2.2.2.2.2.1 X.2.2.2.1 0 0 (uA bs u0)) u0 29 [(0, .ref (bs + a0)), (1, .int x1), (2, .int y1), (3, .ref (bs + b4)), (4, .long x4), (6, .long x6), (8, .int x8)] []) h (fun k_ hk_ => wX1_ending_B29 C hin hk_ ?_ )
  intro z17 z18 h
  try dsimp only [Sum.elim_inl] at h
  refine v_lload C 1 dX1_ending_99 rfl ?_
  refine v_lload C 0 dX1_ending_101 rfl ?_
  refine v_lor C dX1_ending_103 ?_
  exact v_lret C dX1_ending_104 rfl (Option.some.inj h)
set_option maxRecDepth 100000 in
set_option maxHeartbeats 4000000 in
theorem wX1_deliveredBehindOne_B6 {X : UX} {D : UD} {bs tw : Nat} {u0 : UH} {r : Int64} (C : uCx X D bs tw cX1_deliveredBehindOne 8 RX1 (some .long)) (hin : X.2.2.2.2.2.2.2.1.name = "deliveredBehindOne") {a0 : Nat} {x1 : Int32} {x2 : Int32} {x3 : Int32}  {G : Int64 → Prop} {k : Int64 → Int32 → Option Int64} (hk : ∀ (x4 : Int64) (x6 : Int32)  e, k x4 x6  = some e → G e → VV X D bs u0 rmX1_deliveredBehindOne 8 0 0 (MQ X.2.2.2.2.2.2.1 (uQl D bs u0 u0 r) X.2.2.2.2.2.1 X.2.2.2.1 0 0 (uA bs u0)) u0 6 [(0, .ref (bs + a0)), (1, .int x1), (2, .int x2), (3, .int x3), (4, .long x4), (6, .int x6)] []) (hex : ∀ (x4 : Int64) , G x4 → VV X D bs u0 rmX1_deliveredBehindOne 8 0 0 (MQ X.2.2.2.2.2.2.1 (uQl D bs u0 u0 r) X.2.2.2.2.2.1 X.2.2.2.1 0 0 (uA bs u0)) u0 83 [(4, .long x4)] [])  : ∀ (x4 : Int64) (x6 : Int32)  e, fX1_deliveredBehindOne_B6 a0 x1 x2 x3 u0 k x4 x6  = some e → G e → VV X D bs u0 rmX1_deliveredBehindOne 8 0 0 (MQ X.2.2.2.2.2.2.1 (uQl D bs u0 u0 r) X.2.2.2.2.2.1 X.2.2.2.1 0 0 (uA bs u0)) u0 6 [(0, .ref (bs + a0)), (1, .int x1), (2, .int x2), (3, .int x3), (4, .long x4), (6, .int x6)] [] := by
  intro x4 x6  e h g
  unfold fX1_deliveredBehindOne_B6 at h
  refine v_iload C 5 dX1_deliveredBehindOne_6 rfl ?_
  refine v_iconst C (4 : Int32) dX1_deliveredBehindOne_8 (by decide) ?_
  refine v_icmpge C 83 dX1_deliveredBehindOne_9 (by decide) h (fun _ h => ?_) (fun _ h => ?_)
  · refine v_sub [(4, .long x4)] [4] rfl ?_
    exact hex x4 ((Option.some.inj h).symm ▸ g)
  · refine v_iload_n C 2 dX1_deliveredBehindOne_12 rfl rfl ?_
    refine v_iload C 5 dX1_deliveredBehindOne_13 rfl ?_
    obtain ⟨y1, h1, h⟩ := ob_some h
    refine v_goi (rn_N C gcX1_83 (mX11_hasPort h1) ⟨rfl, rfl⟩ rfl ⟨Nat.le_of_ble_eq_true rfl, Nat.le_of_ble_eq_true rfl⟩ (rest := []) rfl (Nat.le_of_ble_eq_true rfl) ⟨Nat.le_of_ble_eq_true rfl, Nat.le_of_ble_eq_true rfl⟩ dX1_deliveredBehindOne_15) ?_
    refine v_ifeq C 77 dX1_deliveredBehindOne_18 (by decide) h (fun _ h => ?_) (fun _ h => ?_)
    · refine v_iinc C 5 (x6 + (1 : Int32)) [(6, .int (x6 + (1 : Int32))), (0, .ref (bs + a0)), (1, .int x1), (2, .int x2), (3, .int x3), (4, .long x4)] dX1_deliveredBehindOne_77 rfl rfl (by decide) rfl ?_
      refine v_goto C 6 dX1_deliveredBehindOne_80 (by decide) ?_
      refine v_sub [(0, .ref (bs + a0)), (1, .int x1), (2, .int x2), (3, .int x3), (4, .long x4), (6, .int (x6 + (1 : Int32)))] [1, 2, 3, 4, 5, 0] rfl ?_
      exact hk x4 (x6 + (1 : Int32)) _ h g
    · refine v_aload_n C 0 dX1_deliveredBehindOne_21 rfl rfl ?_
      refine v_getR C fdX1_15 dX1_deliveredBehindOne_22 h (fun b2 h => ?_)
      refine v_getR C fdX1_75 dX1_deliveredBehindOne_25 h (fun b3 h => ?_)
      refine v_iload_n C 1 dX1_deliveredBehindOne_28 rfl rfl ?_
      refine v_iload C 5 dX1_deliveredBehindOne_29 rfl ?_
      obtain ⟨y4, h1, h⟩ := ob_some h
      refine v_goi (rn_N C gcX1_79 (mX11_placeOf h1) ⟨rfl, rfl⟩ rfl ⟨Nat.le_of_ble_eq_true rfl, Nat.le_of_ble_eq_true rfl⟩ (rest := [.ref (bs + b3)]) rfl (Nat.le_of_ble_eq_true rfl) ⟨Nat.le_of_ble_eq_true rfl, Nat.le_of_ble_eq_true rfl⟩ dX1_deliveredBehindOne_31) ?_
      refine v_ldI C dX1_deliveredBehindOne_34 h (fun y5 h => ?_)
      refine v_istore C [(7, .int y5), (0, .ref (bs + a0)), (1, .int x1), (2, .int x2), (3, .int x3), (4, .long x4), (6, .int x6)] dX1_deliveredBehindOne_35 (by decide) rfl ?_
      refine v_iload C 0 dX1_deliveredBehindOne_37 rfl ?_
      refine v_iconst C (-1 : Int32) dX1_deliveredBehindOne_39 (by decide) ?_
      refine v_icmpeq C 58 dX1_deliveredBehindOne_40 (by decide) h (fun _ h => ?_) (fun _ h => ?_)
      · refine v_iload_n C 2 dX1_deliveredBehindOne_58 rfl rfl ?_
        refine v_iload C 6 dX1_deliveredBehindOne_59 rfl ?_
        obtain ⟨y6, h1, h⟩ := ob_some h
        refine v_goi (rn_N C gcX1_79 (mX11_placeOf h1) ⟨rfl, rfl⟩ rfl ⟨Nat.le_of_ble_eq_true rfl, Nat.le_of_ble_eq_true rfl⟩ (rest := []) rfl (Nat.le_of_ble_eq_true rfl) ⟨Nat.le_of_ble_eq_true rfl, Nat.le_of_ble_eq_true rfl⟩ dX1_deliveredBehindOne_61) ?_
        refine v_iload_n C 4 dX1_deliveredBehindOne_64 rfl rfl ?_
        refine v_icmpne C 77 dX1_deliveredBehindOne_65 (by decide) h (fun _ h => ?_) (fun _ h => ?_)
        · refine v_iinc C 6 (x6 + (1 : Int32)) [(6, .int (x6 + (1 : Int32))), (7, .int y5), (0, .ref (bs + a0)), (1, .int x1), (2, .int x2), (3, .int x3), (4, .long x4)] dX1_deliveredBehindOne_77 rfl rfl (by decide) rfl ?_
          refine v_goto C 6 dX1_deliveredBehindOne_80 (by decide) ?_
          refine v_sub [(0, .ref (bs + a0)), (1, .int x1), (2, .int x2), (3, .int x3), (4, .long x4), (6, .int (x6 + (1 : Int32)))] [2, 3, 4, 5, 6, 0] rfl ?_
          exact hk x4 (x6 + (1 : Int32)) _ h g
        · refine v_aload_n C 1 dX1_deliveredBehindOne_68 rfl rfl ?_
          refine v_getR C fdX1_15 dX1_deliveredBehindOne_69 h (fun b7 h => ?_)
          obtain ⟨y8, h1, h⟩ := ob_some h
          obtain ⟨hkd, h1⟩ := kd_some h1
          refine v_gol (rn_V C gcX1_43 (RX4, TX4, 4) rfl rfl (by decide) hkd (mX4_allHeaders h1) ⟨rfl, rfl⟩ rfl ⟨Nat.le_of_ble_eq_true rfl, Nat.le_of_ble_eq_true rfl⟩ (rest := []) rfl (Nat.le_of_ble_eq_true rfl) ⟨Nat.le_of_ble_eq_true rfl, Nat.le_of_ble_eq_true rfl⟩ dX1_deliveredBehindOne_72) ?_
          refine v_lstore C [(4, .long y8), (7, .int y5), (0, .ref (bs + a0)), (1, .int x1), (2, .int x2), (3, .int x3), (6, .int x6)] dX1_deliveredBehindOne_75 (by decide) rfl ?_
          refine v_iinc C 6 (x6 + (1 : Int32)) [(6, .int (x6 + (1 : Int32))), (4, .long y8), (7, .int y5), (0, .ref (bs + a0)), (1, .int x1), (2, .int x2), (3, .int x3)] dX1_deliveredBehindOne_77 rfl rfl (by decide) rfl ?_
          refine v_goto C 6 dX1_deliveredBehindOne_80 (by decide) ?_
          refine v_sub [(0, .ref (bs + a0)), (1, .int x1), (2, .int x2), (3, .int x3), (4, .long y8), (6, .int (x6 + (1 : Int32)))] [3, 4, 5, 6, 1, 0] rfl ?_
          exact hk y8 (x6 + (1 : Int32)) _ h g
      · refine v_lload C 5 dX1_deliveredBehindOne_43 rfl ?_
        refine v_aload_n C 1 dX1_deliveredBehindOne_45 rfl rfl ?_
        refine v_getR C fdX1_9 dX1_deliveredBehindOne_46 h (fun b9 h => ?_)
        refine v_iload C 0 dX1_deliveredBehindOne_49 rfl ?_
        refine v_ldJ C dX1_deliveredBehindOne_51 h (fun y10 h => ?_)
        refine v_lor C dX1_deliveredBehindOne_52 ?_
        refine v_ltl h (fun y11 h => ?_)
        refine v_lstore C [(4, .long y11), (7, .int y5), (0, .ref (bs + a0)), (1, .int x1), (2, .int x2), (3, .int x3), (6, .int x6)] dX1_deliveredBehindOne_53 (by decide) rfl ?_
        refine v_goto C 77 dX1_deliveredBehindOne_55 (by decide) ?_
        refine v_iinc C 6 (x6 + (1 : Int32)) [(6, .int (x6 + (1 : Int32))), (4, .long y11), (7, .int y5), (0, .ref (bs + a0)), (1, .int x1), (2, .int x2), (3, .int x3)] dX1_deliveredBehindOne_77 rfl rfl (by decide) rfl ?_
        refine v_goto C 6 dX1_deliveredBehindOne_80 (by decide) ?_
        refine v_sub [(0, .ref (bs + a0)), (1, .int x1), (2, .int x2), (3, .int x3), (4, .long y11), (6, .int (x6 + (1 : Int32)))] [3, 4, 5, 6, 1, 0] rfl ?_
        exact hk y11 (x6 + (1 : Int32)) _ h g
set_option maxRecDepth 100000 in
set_option maxHeartbeats 4000000 in
theorem mX1_deliveredBehindOne {l : Launch} {D : UD} {bs : Nat} {a0 : Nat} {x1 : Int32} {x2 : Int32} {x3 : Int32} {u0 : UH} {r : Int64} (h : fX1_deliveredBehindOne a0 x1 x2 x3 u0 = some r) : Met l yX1_deliveredBehindOne (wz yX1_deliveredBehindOne cX1_deliveredBehindOne 8 (some .long)) rmX1_deliveredBehindOne (va_Pc [.ref (bs + a0), .int x1, .int x2, .int x3] (uIn D bs u0)) (uQl D bs u0 u0 r) 0 0 (uA bs u0) := by
  refine uMet (by decide) (Nat.le_of_ble_eq_true rfl) ?_
  intro X tw hX C hin
  have C : uCx X D bs tw cX1_deliveredBehindOne 8 RX1 (some .long) := C
  have hin : X.2.2.2.2.2.2.2.1.name = "deliveredBehindOne" := hin
  refine v_L [(0, .ref (bs + a0)), (1, .int x1), (2, .int x2), (3, .int x3)] rfl ?_
  unfold fX1_deliveredBehindOne at h
  refine v_lconst C (0 : Int64) dX1_deliveredBehindOne_0 (by decide) ?_
  refine v_lstore C [(4, .long (0 : Int64)), (0, .ref (bs + a0)), (1, .int x1), (2, .int x2), (3, .int x3)] dX1_deliveredBehindOne_1 (by decide) rfl ?_
  refine v_iconst C (0 : Int32) dX1_deliveredBehindOne_3 (by decide) ?_
  refine v_istore C [(6, .int (0 : Int32)), (4, .long (0 : Int64)), (0, .ref (bs + a0)), (1, .int x1), (2, .int x2), (3, .int x3)] dX1_deliveredBehindOne_4 (by decide) rfl ?_
  refine v_sub [(0, .ref (bs + a0)), (1, .int x1), (2, .int x2), (3, .int x3), (4, .long (0 : Int64)), (6, .int (0 : Int32))] [2, 3, 4, 5, 1, 0] rfl ?_
  refine it2_O (V := fun x4 x6 => VV X D bs u0 rmX1_deliveredBehindOne 8 0 0 (MQ X.2.2.2.2.2.2.1 (uQl D bs u0 u0 r) X.2.2.2.2.2.1 X.2.2.2.1 0 0 (uA bs u0)) u0 6 [(0, .ref (bs + a0)), (1, .int x1), (2, .int x2), (3, .int x3), (4, .long x4), (6, .int x6)] []) h (fun k_ hk_ => wX1_deliveredBehindOne_B6 C hin hk_ ?_ )
  intro z13 h
  try dsimp only [Sum.elim_inl] at h
  refine v_lload C 0 dX1_deliveredBehindOne_83 rfl ?_
  exact v_lret C dX1_deliveredBehindOne_85 rfl (Option.some.inj h)
set_option maxRecDepth 100000 in
set_option maxHeartbeats 4000000 in
theorem wX1_delivering_B30 {X : UX} {D : UD} {bs tw : Nat} {u0 : UH} {r : Int64} (C : uCx X D bs tw cX1_delivering 13 RX1 (some .long)) (hin : X.2.2.2.2.2.2.2.1.name = "delivering") {a0 : Nat} {x1 : Int32} {x2 : Int32} {x3 : Int32} {a4 : Nat}  {G : Int64 → Prop} {k : Int64 → Int64 → Int32 → Option Int64} (hk : ∀ (x5 : Int64) (x7 : Int64) (x9 : Int32)  e, k x5 x7 x9  = some e → G e → VV X D bs u0 rmX1_delivering 13 0 0 (MQ X.2.2.2.2.2.2.1 (uQl D bs u0 u0 r) X.2.2.2.2.2.1 X.2.2.2.1 0 0 (uA bs u0)) u0 30 [(0, .ref (bs + a0)), (1, .int x1), (2, .int x2), (3, .int x3), (4, .ref (bs + a4)), (5, .long x5), (7, .long x7), (9, .int x9)] []) (hex : ∀ (x7 : Int64) , G x7 → VV X D bs u0 rmX1_delivering 13 0 0 (MQ X.2.2.2.2.2.2.1 (uQl D bs u0 u0 r) X.2.2.2.2.2.1 X.2.2.2.1 0 0 (uA bs u0)) u0 103 [(7, .long x7)] [])  : ∀ (x5 : Int64) (x7 : Int64) (x9 : Int32)  e, fX1_delivering_B30 a0 x1 x2 x3 a4 u0 k x5 x7 x9  = some e → G e → VV X D bs u0 rmX1_delivering 13 0 0 (MQ X.2.2.2.2.2.2.1 (uQl D bs u0 u0 r) X.2.2.2.2.2.1 X.2.2.2.1 0 0 (uA bs u0)) u0 30 [(0, .ref (bs + a0)), (1, .int x1), (2, .int x2), (3, .int x3), (4, .ref (bs + a4)), (5, .long x5), (7, .long x7), (9, .int x9)] [] := by
  intro x5 x7 x9  e h g
  unfold fX1_delivering_B30 at h
  refine v_iload C 7 dX1_delivering_30 rfl ?_
  refine v_aload C 4 dX1_delivering_32 rfl ?_
  refine v_getI C fdX1_47 dX1_delivering_34 h (fun y7 h => ?_)
  refine v_icmpge C 103 dX1_delivering_37 (by decide) h (fun _ h => ?_) (fun _ h => ?_)
  · refine v_sub [(7, .long x7)] [6] rfl ?_
    exact hex x7 ((Option.some.inj h).symm ▸ g)
  · refine v_aload C 4 dX1_delivering_40 rfl ?_
    refine v_getR C fdX1_53 dX1_delivering_42 h (fun b8 h => ?_)
    refine v_iload C 7 dX1_delivering_45 rfl ?_
    refine v_ldR C 25 _ rfl (by decide) dX1_delivering_47 h (fun b9 h => ?_)
    refine v_astore C [(10, .ref (bs + b9)), (0, .ref (bs + a0)), (1, .int x1), (2, .int x2), (3, .int x3), (4, .ref (bs + a4)), (5, .long x5), (7, .long x7), (9, .int x9)] dX1_delivering_48 (by decide) rfl ?_
    refine v_aload C 0 dX1_delivering_50 rfl ?_
    refine v_iload_n C 2 dX1_delivering_52 rfl rfl ?_
    refine v_iconst C (4 : Int32) dX1_delivering_53 (by decide) ?_
    refine v_irem C dX1_delivering_54 (by decide) ?_
    refine v_lload C 6 dX1_delivering_55 rfl ?_
    obtain ⟨y10, h1, h⟩ := ob_some h
    obtain ⟨hkd, h1⟩ := kd_some h1
    refine v_gol (rn_V C gcX1_57 (RX6, TX6, 8) rfl rfl (by decide) hkd (mX6_taken h1) ⟨rfl, rfl⟩ rfl ⟨Nat.le_of_ble_eq_true rfl, Nat.le_of_ble_eq_true rfl⟩ (rest := []) rfl (Nat.le_of_ble_eq_true rfl) ⟨Nat.le_of_ble_eq_true rfl, Nat.le_of_ble_eq_true rfl⟩ dX1_delivering_57) ?_
    refine v_lstore C [(11, .long y10), (10, .ref (bs + b9)), (0, .ref (bs + a0)), (1, .int x1), (2, .int x2), (3, .int x3), (4, .ref (bs + a4)), (5, .long x5), (7, .long x7), (9, .int x9)] dX1_delivering_60 (by decide) rfl ?_
    refine v_lload C 7 dX1_delivering_62 rfl ?_
    refine v_lload C 0 dX1_delivering_64 rfl ?_
    refine v_ldc2 C (-1 : Int64) tw723 dX1_delivering_66 ?_
    refine v_lxor C dX1_delivering_69 ?_
    refine v_land C dX1_delivering_70 ?_
    refine v_ltl h (fun y11 h => ?_)
    refine v_lstore C [(5, .long y11), (11, .long y10), (10, .ref (bs + b9)), (0, .ref (bs + a0)), (1, .int x1), (2, .int x2), (3, .int x3), (4, .ref (bs + a4)), (7, .long x7), (9, .int x9)] dX1_delivering_71 (by decide) rfl ?_
    refine v_lload C 8 dX1_delivering_73 rfl ?_
    refine v_lload C 1 dX1_delivering_75 rfl ?_
    refine v_aload C 2 dX1_delivering_77 rfl ?_
    refine v_aload_n C 3 dX1_delivering_79 rfl rfl ?_
    refine v_iload_n C 6 dX1_delivering_80 rfl rfl ?_
    refine v_aload C 2 dX1_delivering_81 rfl ?_
    refine v_getI C fdX1_65 dX1_delivering_83 h (fun y12 h => ?_)
    refine v_iload_n C 5 dX1_delivering_86 rfl rfl ?_
    obtain ⟨y13, h1, h⟩ := ob_some h
    obtain ⟨hkd, h1⟩ := kd_some h1
    refine v_gol (rn_V C gcX1_87 (RX1, TX1, 2) rfl rfl (by decide) hkd (mX1_deliveredBehindOne h1) ⟨rfl, rfl⟩ rfl ⟨Nat.le_of_ble_eq_true rfl, Nat.le_of_ble_eq_true rfl⟩ (rest := [.ref (bs + b9), .long y10, .long x7]) rfl (Nat.le_of_ble_eq_true rfl) ⟨Nat.le_of_ble_eq_true rfl, Nat.le_of_ble_eq_true rfl⟩ dX1_delivering_87) ?_
    obtain ⟨y14, h1, h⟩ := ob_some h
    obtain ⟨hkd, h1⟩ := kd_some h1
    refine v_gol (rn_V C gcX1_71 (RX6, TX6, 8) rfl rfl (by decide) hkd (mX6_leadingInto h1) ⟨rfl, rfl⟩ rfl ⟨Nat.le_of_ble_eq_true rfl, Nat.le_of_ble_eq_true rfl⟩ (rest := [.long y10, .long x7]) rfl (Nat.le_of_ble_eq_true rfl) ⟨Nat.le_of_ble_eq_true rfl, Nat.le_of_ble_eq_true rfl⟩ dX1_delivering_90) ?_
    refine v_land C dX1_delivering_93 ?_
    refine v_lor C dX1_delivering_94 ?_
    refine v_ltl h (fun y15 h => ?_)
    refine v_lstore C [(7, .long y15), (5, .long y11), (11, .long y10), (10, .ref (bs + b9)), (0, .ref (bs + a0)), (1, .int x1), (2, .int x2), (3, .int x3), (4, .ref (bs + a4)), (9, .int x9)] dX1_delivering_95 (by decide) rfl ?_
    refine v_iinc C 9 (x9 + (1 : Int32)) [(9, .int (x9 + (1 : Int32))), (7, .long y15), (5, .long y11), (11, .long y10), (10, .ref (bs + b9)), (0, .ref (bs + a0)), (1, .int x1), (2, .int x2), (3, .int x3), (4, .ref (bs + a4))] dX1_delivering_97 rfl rfl (by decide) rfl ?_
    refine v_goto C 30 dX1_delivering_100 (by decide) ?_
    refine v_sub [(0, .ref (bs + a0)), (1, .int x1), (2, .int x2), (3, .int x3), (4, .ref (bs + a4)), (5, .long y11), (7, .long y15), (9, .int (x9 + (1 : Int32)))] [5, 6, 7, 8, 9, 2, 1, 0] rfl ?_
    exact hk y11 y15 (x9 + (1 : Int32)) _ h g
set_option maxRecDepth 100000 in
set_option maxHeartbeats 4000000 in
theorem mX1_delivering {l : Launch} {D : UD} {bs : Nat} {a0 : Nat} {x1 : Int32} {x2 : Int32} {u0 : UH} {r : Int64} (h : fX1_delivering a0 x1 x2 u0 = some r) : Met l yX1_delivering (wz yX1_delivering cX1_delivering 13 (some .long)) rmX1_delivering (va_Pc [.ref (bs + a0), .int x1, .int x2] (uIn D bs u0)) (uQl D bs u0 u0 r) 0 0 (uA bs u0) := by
  refine uMet (by decide) (Nat.le_of_ble_eq_true rfl) ?_
  intro X tw hX C hin
  have C : uCx X D bs tw cX1_delivering 13 RX1 (some .long) := C
  have hin : X.2.2.2.2.2.2.2.1.name = "delivering" := hin
  refine v_L [(0, .ref (bs + a0)), (1, .int x1), (2, .int x2)] rfl ?_
  unfold fX1_delivering at h
  refine v_iload_n C 1 dX1_delivering_0 rfl rfl ?_
  refine v_iconst C (4 : Int32) dX1_delivering_1 (by decide) ?_
  refine v_idiv C dX1_delivering_2 (by decide) ?_
  refine v_lti h (fun y1 h => ?_)
  refine v_istore_n C [(3, .int y1), (0, .ref (bs + a0)), (1, .int x1), (2, .int x2)] dX1_delivering_3 rfl (by decide) rfl ?_
  refine v_aload_n C 1 dX1_delivering_4 rfl rfl ?_
  refine v_getR C fdX1_15 dX1_delivering_5 h (fun b2 h => ?_)
  refine v_getR C fdX1_37 dX1_delivering_8 h (fun b3 h => ?_)
  refine v_iload_n C 0 dX1_delivering_11 rfl rfl ?_
  refine v_ldR C 26 _ rfl (by decide) dX1_delivering_12 h (fun b4 h => ?_)
  refine v_astore C [(4, .ref (bs + b4)), (3, .int y1), (0, .ref (bs + a0)), (1, .int x1), (2, .int x2)] dX1_delivering_13 (by decide) rfl ?_
  refine v_aload_n C 2 dX1_delivering_15 rfl rfl ?_
  refine v_getR C fdX1_15 dX1_delivering_16 h (fun b5 h => ?_)
  obtain ⟨y6, h1, h⟩ := ob_some h
  obtain ⟨hkd, h1⟩ := kd_some h1
  refine v_gol (rn_V C gcX1_43 (RX4, TX4, 4) rfl rfl (by decide) hkd (mX4_allHeaders h1) ⟨rfl, rfl⟩ rfl ⟨Nat.le_of_ble_eq_true rfl, Nat.le_of_ble_eq_true rfl⟩ (rest := []) rfl (Nat.le_of_ble_eq_true rfl) ⟨Nat.le_of_ble_eq_true rfl, Nat.le_of_ble_eq_true rfl⟩ dX1_delivering_19) ?_
  refine v_lstore C [(5, .long y6), (4, .ref (bs + b4)), (3, .int y1), (0, .ref (bs + a0)), (1, .int x1), (2, .int x2)] dX1_delivering_22 (by decide) rfl ?_
  refine v_lconst C (0 : Int64) dX1_delivering_24 (by decide) ?_
  refine v_lstore C [(7, .long (0 : Int64)), (5, .long y6), (4, .ref (bs + b4)), (3, .int y1), (0, .ref (bs + a0)), (1, .int x1), (2, .int x2)] dX1_delivering_25 (by decide) rfl ?_
  refine v_iconst C (0 : Int32) dX1_delivering_27 (by decide) ?_
  refine v_istore C [(9, .int (0 : Int32)), (7, .long (0 : Int64)), (5, .long y6), (4, .ref (bs + b4)), (3, .int y1), (0, .ref (bs + a0)), (1, .int x1), (2, .int x2)] dX1_delivering_28 (by decide) rfl ?_
  refine v_sub [(0, .ref (bs + a0)), (1, .int x1), (2, .int x2), (3, .int y1), (4, .ref (bs + b4)), (5, .long y6), (7, .long (0 : Int64)), (9, .int (0 : Int32))] [5, 6, 7, 4, 3, 2, 1, 0] rfl ?_
  refine it3_O (V := fun x5 x7 x9 => VV X D bs u0 rmX1_delivering 13 0 0 (MQ X.2.2.2.2.2.2.1 (uQl D bs u0 u0 r) X.2.2.2.2.2.1 X.2.2.2.1 0 0 (uA bs u0)) u0 30 [(0, .ref (bs + a0)), (1, .int x1), (2, .int x2), (3, .int y1), (4, .ref (bs + b4)), (5, .long x5), (7, .long x7), (9, .int x9)] []) h (fun k_ hk_ => wX1_delivering_B30 C hin hk_ ?_ )
  intro z17 h
  try dsimp only [Sum.elim_inl] at h
  refine v_lload C 0 dX1_delivering_103 rfl ?_
  exact v_lret C dX1_delivering_105 rfl (Option.some.inj h)
set_option maxRecDepth 100000 in
set_option maxHeartbeats 4000000 in
theorem wX1_growOnce_29 {X : UX} {D : UD} {bs tw : Nat} {u0 : UH} {r : Int32} {v : UH} (C : uCx X D bs tw cX1_growOnce 6 RX1 (some .boolean)) (hin : X.2.2.2.2.2.2.2.1.name = "growOnce") {a0 : Nat} {x1 : Int32}  {G : (Int32 × UH) → Prop} {k : Int32 → Int32 → UH → Option (Int32 × UH)} (hk : ∀ (x2 : Int32) (x3 : Int32) (u' : UH) e, k x2 x3 u' = some e → G e → VV X D bs u0 rmX1_growOnce 6 0 0 (MQ X.2.2.2.2.2.2.1 (uQi D bs u0 v r) X.2.2.2.2.2.1 X.2.2.2.1 0 0 (uA bs u0)) u' 4 [(0, .ref (bs + a0)), (1, .int x1), (2, .int x2), (3, .int x3)] []) (hex : ∀ (x2 : Int32) (u' : UH), G (x2, u') → VV X D bs u0 rmX1_growOnce 6 0 0 (MQ X.2.2.2.2.2.2.1 (uQi D bs u0 v r) X.2.2.2.2.2.1 X.2.2.2.1 0 0 (uA bs u0)) u' 67 [(2, .int x2)] [])  {x2 : Int32} {x3 : Int32} {s0 : Int64} {u : UH} {e : (Int32 × UH)} (h : fX1_growOnce_29 k a0 x1 x2 x3 s0 u = some e) (g : G e) : VV X D bs u0 rmX1_growOnce 6 0 0 (MQ X.2.2.2.2.2.2.1 (uQi D bs u0 v r) X.2.2.2.2.2.1 X.2.2.2.1 0 0 (uA bs u0)) u 29 [(0, .ref (bs + a0)), (1, .int x1), (2, .int x2), (3, .int x3)] [.long s0] := by
  unfold fX1_growOnce_29 at h
  refine v_lstore C [(4, .long s0), (0, .ref (bs + a0)), (1, .int x1), (2, .int x2), (3, .int x3)] dX1_growOnce_29 (by decide) rfl ?_
  refine v_iload_n C 3 dX1_growOnce_31 rfl rfl ?_
  refine v_ifne C 47 dX1_growOnce_32 (by decide) h (fun _ h => ?_) (fun _ h => ?_)
  · refine v_iconst C (1 : Int32) dX1_growOnce_47 (by decide) ?_
    refine v_goto C 52 dX1_growOnce_48 (by decide) ?_
    refine v_istore_n C [(2, .int (1 : Int32)), (4, .long s0), (0, .ref (bs + a0)), (1, .int x1), (3, .int x3)] dX1_growOnce_52 rfl (by decide) rfl ?_
    refine v_aload_n C 2 dX1_growOnce_53 rfl rfl ?_
    refine v_getR C fdX1_9 dX1_growOnce_54 h (fun b2 h => ?_)
    refine v_iload_n C 4 dX1_growOnce_57 rfl rfl ?_
    refine v_lload C 1 dX1_growOnce_58 rfl ?_
    refine v_stJ C dX1_growOnce_60 h (fun u3 h => ?_)
    refine v_iinc C 4 (x3 + (1 : Int32)) [(3, .int (x3 + (1 : Int32))), (2, .int (1 : Int32)), (4, .long s0), (0, .ref (bs + a0)), (1, .int x1)] dX1_growOnce_61 rfl rfl (by decide) rfl ?_
    refine v_goto C 4 dX1_growOnce_64 (by decide) ?_
    refine v_sub [(0, .ref (bs + a0)), (1, .int x1), (2, .int (1 : Int32)), (3, .int (x3 + (1 : Int32)))] [3, 4, 1, 0] rfl ?_
    exact hk (1 : Int32) (x3 + (1 : Int32)) u3 _ h g
  · refine v_lload C 0 dX1_growOnce_35 rfl ?_
    refine v_aload_n C 1 dX1_growOnce_37 rfl rfl ?_
    refine v_getR C fdX1_9 dX1_growOnce_38 h (fun b4 h => ?_)
    refine v_iload_n C 4 dX1_growOnce_41 rfl rfl ?_
    refine v_ldJ C dX1_growOnce_42 h (fun y5 h => ?_)
    refine v_lcmpeq C 51 dX1_growOnce_43 dX1_growOnce_44 (by decide) h (fun _ h => ?_) (fun _ h => ?_)
    · refine v_iconst C (0 : Int32) dX1_growOnce_51 (by decide) ?_
      refine v_istore_n C [(2, .int (0 : Int32)), (4, .long s0), (0, .ref (bs + a0)), (1, .int x1), (3, .int x3)] dX1_growOnce_52 rfl (by decide) rfl ?_
      refine v_aload_n C 2 dX1_growOnce_53 rfl rfl ?_
      refine v_getR C fdX1_9 dX1_growOnce_54 h (fun b6 h => ?_)
      refine v_iload_n C 4 dX1_growOnce_57 rfl rfl ?_
      refine v_lload C 1 dX1_growOnce_58 rfl ?_
      refine v_stJ C dX1_growOnce_60 h (fun u7 h => ?_)
      refine v_iinc C 4 (x3 + (1 : Int32)) [(3, .int (x3 + (1 : Int32))), (2, .int (0 : Int32)), (4, .long s0), (0, .ref (bs + a0)), (1, .int x1)] dX1_growOnce_61 rfl rfl (by decide) rfl ?_
      refine v_goto C 4 dX1_growOnce_64 (by decide) ?_
      refine v_sub [(0, .ref (bs + a0)), (1, .int x1), (2, .int (0 : Int32)), (3, .int (x3 + (1 : Int32)))] [3, 4, 1, 0] rfl ?_
      exact hk (0 : Int32) (x3 + (1 : Int32)) u7 _ h g
    · refine v_iconst C (1 : Int32) dX1_growOnce_47 (by decide) ?_
      refine v_goto C 52 dX1_growOnce_48 (by decide) ?_
      refine v_istore_n C [(2, .int (1 : Int32)), (4, .long s0), (0, .ref (bs + a0)), (1, .int x1), (3, .int x3)] dX1_growOnce_52 rfl (by decide) rfl ?_
      refine v_aload_n C 2 dX1_growOnce_53 rfl rfl ?_
      refine v_getR C fdX1_9 dX1_growOnce_54 h (fun b8 h => ?_)
      refine v_iload_n C 4 dX1_growOnce_57 rfl rfl ?_
      refine v_lload C 1 dX1_growOnce_58 rfl ?_
      refine v_stJ C dX1_growOnce_60 h (fun u9 h => ?_)
      refine v_iinc C 4 (x3 + (1 : Int32)) [(3, .int (x3 + (1 : Int32))), (2, .int (1 : Int32)), (4, .long s0), (0, .ref (bs + a0)), (1, .int x1)] dX1_growOnce_61 rfl rfl (by decide) rfl ?_
      refine v_goto C 4 dX1_growOnce_64 (by decide) ?_
      refine v_sub [(0, .ref (bs + a0)), (1, .int x1), (2, .int (1 : Int32)), (3, .int (x3 + (1 : Int32)))] [3, 4, 1, 0] rfl ?_
      exact hk (1 : Int32) (x3 + (1 : Int32)) u9 _ h g
set_option maxRecDepth 100000 in
set_option maxHeartbeats 4000000 in
theorem wX1_growOnce_B4 {X : UX} {D : UD} {bs tw : Nat} {u0 : UH} {r : Int32} {v : UH} (C : uCx X D bs tw cX1_growOnce 6 RX1 (some .boolean)) (hin : X.2.2.2.2.2.2.2.1.name = "growOnce") {a0 : Nat} {x1 : Int32}  {G : (Int32 × UH) → Prop} {k : Int32 → Int32 → UH → Option (Int32 × UH)} (hk : ∀ (x2 : Int32) (x3 : Int32) (u' : UH) e, k x2 x3 u' = some e → G e → VV X D bs u0 rmX1_growOnce 6 0 0 (MQ X.2.2.2.2.2.2.1 (uQi D bs u0 v r) X.2.2.2.2.2.1 X.2.2.2.1 0 0 (uA bs u0)) u' 4 [(0, .ref (bs + a0)), (1, .int x1), (2, .int x2), (3, .int x3)] []) (hex : ∀ (x2 : Int32) (u' : UH), G (x2, u') → VV X D bs u0 rmX1_growOnce 6 0 0 (MQ X.2.2.2.2.2.2.1 (uQi D bs u0 v r) X.2.2.2.2.2.1 X.2.2.2.1 0 0 (uA bs u0)) u' 67 [(2, .int x2)] [])  : ∀ (x2 : Int32) (x3 : Int32) (u : UH) e, fX1_growOnce_B4 a0 x1  k x2 x3 u = some e → G e → VV X D bs u0 rmX1_growOnce 6 0 0 (MQ X.2.2.2.2.2.2.1 (uQi D bs u0 v r) X.2.2.2.2.2.1 X.2.2.2.1 0 0 (uA bs u0)) u 4 [(0, .ref (bs + a0)), (1, .int x1), (2, .int x2), (3, .int x3)] [] := by
  intro x2 x3 u e h g
  unfold fX1_growOnce_B4 at h
  refine v_iload_n C 3 dX1_growOnce_4 rfl rfl ?_
  refine v_bipush C (24 : Int32) dX1_growOnce_5 (by decide) ?_
  refine v_icmpge C 67 dX1_growOnce_7 (by decide) h (fun _ h => ?_) (fun _ h => ?_)
  · refine v_sub [(2, .int x2)] [2] rfl ?_
    exact hex x2 u ((Option.some.inj h).symm ▸ g)
  · refine v_iload_n C 1 dX1_growOnce_10 rfl rfl ?_
    refine v_iconst C (-1 : Int32) dX1_growOnce_11 (by decide) ?_
    refine v_icmpne C 23 dX1_growOnce_12 (by decide) h (fun _ h => ?_) (fun _ h => ?_)
    · refine v_aload_n C 0 dX1_growOnce_23 rfl rfl ?_
      refine v_iload_n C 3 dX1_growOnce_24 rfl rfl ?_
      refine v_iload_n C 1 dX1_growOnce_25 rfl rfl ?_
      obtain ⟨y1, h1, h⟩ := ob_some h
      obtain ⟨hkd, h1⟩ := kd_some h1
      refine v_gol (rn_V C gcX1_33 (RX1, TX1, 2) rfl rfl (by decide) hkd (mX1_delivering h1) ⟨rfl, rfl⟩ rfl ⟨Nat.le_of_ble_eq_true rfl, Nat.le_of_ble_eq_true rfl⟩ (rest := []) rfl (Nat.le_of_ble_eq_true rfl) ⟨Nat.le_of_ble_eq_true rfl, Nat.le_of_ble_eq_true rfl⟩ dX1_growOnce_26) ?_
      refine v_sub [(0, .ref (bs + a0)), (1, .int x1), (2, .int x2), (3, .int x3)] [0, 1, 2, 3] rfl ?_
      exact wX1_growOnce_29 C hin hk hex  h g
    · refine v_aload_n C 0 dX1_growOnce_15 rfl rfl ?_
      refine v_iload_n C 3 dX1_growOnce_16 rfl rfl ?_
      obtain ⟨y10, h1, h⟩ := ob_some h
      obtain ⟨hkd, h1⟩ := kd_some h1
      refine v_gol (rn_V C gcX1_29 (RX1, TX1, 2) rfl rfl (by decide) hkd (mX1_ending h1) ⟨rfl, rfl⟩ rfl ⟨Nat.le_of_ble_eq_true rfl, Nat.le_of_ble_eq_true rfl⟩ (rest := []) rfl (Nat.le_of_ble_eq_true rfl) ⟨Nat.le_of_ble_eq_true rfl, Nat.le_of_ble_eq_true rfl⟩ dX1_growOnce_17) ?_
      refine v_goto C 29 dX1_growOnce_20 (by decide) ?_
      refine v_sub [(0, .ref (bs + a0)), (1, .int x1), (2, .int x2), (3, .int x3)] [0, 1, 2, 3] rfl ?_
      exact wX1_growOnce_29 C hin hk hex  h g
set_option maxRecDepth 100000 in
set_option maxHeartbeats 4000000 in
theorem mX1_growOnce {l : Launch} {D : UD} {bs : Nat} {a0 : Nat} {x1 : Int32} {u0 : UH} {r : Int32} {v : UH} (h : fX1_growOnce a0 x1 u0 = some (r, v)) : Met l yX1_growOnce (wz yX1_growOnce cX1_growOnce 6 (some .boolean)) rmX1_growOnce (va_Pc [.ref (bs + a0), .int x1] (uIn D bs u0)) (uQi D bs u0 v r) 0 0 (uA bs u0) := by
  refine uMet (by decide) (Nat.le_of_ble_eq_true rfl) ?_
  intro X tw hX C hin
  have C : uCx X D bs tw cX1_growOnce 6 RX1 (some .boolean) := C
  have hin : X.2.2.2.2.2.2.2.1.name = "growOnce" := hin
  refine v_L [(0, .ref (bs + a0)), (1, .int x1)] rfl ?_
  unfold fX1_growOnce at h
  refine v_iconst C (0 : Int32) dX1_growOnce_0 (by decide) ?_
  refine v_istore_n C [(2, .int (0 : Int32)), (0, .ref (bs + a0)), (1, .int x1)] dX1_growOnce_1 rfl (by decide) rfl ?_
  refine v_iconst C (0 : Int32) dX1_growOnce_2 (by decide) ?_
  refine v_istore_n C [(3, .int (0 : Int32)), (2, .int (0 : Int32)), (0, .ref (bs + a0)), (1, .int x1)] dX1_growOnce_3 rfl (by decide) rfl ?_
  refine v_sub [(0, .ref (bs + a0)), (1, .int x1), (2, .int (0 : Int32)), (3, .int (0 : Int32))] [2, 3, 1, 0] rfl ?_
  refine it3_O (V := fun x2 x3 u' => VV X D bs u0 rmX1_growOnce 6 0 0 (MQ X.2.2.2.2.2.2.1 (uQi D bs u0 v r) X.2.2.2.2.2.1 X.2.2.2.1 0 0 (uA bs u0)) u' 4 [(0, .ref (bs + a0)), (1, .int x1), (2, .int x2), (3, .int x3)] []) h (fun k_ hk_ => wX1_growOnce_B4 C hin hk_ ?_ )
  intro z12 z13 h
  try dsimp only [Sum.elim_inl] at h
  refine v_iload_n C 0 dX1_growOnce_67 rfl rfl ?_
  obtain ⟨hz, h⟩ := bz_some h
  exact v_zret C dX1_growOnce_68 (Prod.mk.inj (Option.some.inj h)).2 (Prod.mk.inj (Option.some.inj h)).1 (nz hz)
set_option maxRecDepth 100000 in
set_option maxHeartbeats 4000000 in
theorem wX1_find_B12 {X : UX} {D : UD} {bs tw : Nat} {u0 : UH} {v : UH} (C : uCx X D bs tw cX1_find 4 RX1 none) (hin : X.2.2.2.2.2.2.2.1.name = "find") {a0 : Nat} {x1 : Int32}  {G : UH → Prop} {k : Int32 → Int32 → UH → Option UH} (hk : ∀ (x2 : Int32) (x3 : Int32) (u' : UH) e, k x2 x3 u' = some e → G e → VV X D bs u0 rmX1_find 4 0 0 (MQ X.2.2.2.2.2.2.1 (uQv D bs u0 v) X.2.2.2.2.2.1 X.2.2.2.1 0 0 (uA bs u0)) u' 12 [(0, .ref (bs + a0)), (1, .int x1), (2, .int x2), (3, .int x3)] []) (hex : ∀  (u' : UH), G u' → VV X D bs u0 rmX1_find 4 0 0 (MQ X.2.2.2.2.2.2.1 (uQv D bs u0 v) X.2.2.2.2.2.1 X.2.2.2.1 0 0 (uA bs u0)) u' 35 [] [])  : ∀ (x2 : Int32) (x3 : Int32) (u : UH) e, fX1_find_B12 a0 x1  k x2 x3 u = some e → G e → VV X D bs u0 rmX1_find 4 0 0 (MQ X.2.2.2.2.2.2.1 (uQv D bs u0 v) X.2.2.2.2.2.1 X.2.2.2.1 0 0 (uA bs u0)) u 12 [(0, .ref (bs + a0)), (1, .int x1), (2, .int x2), (3, .int x3)] [] := by
  intro x2 x3 u e h g
  unfold fX1_find_B12 at h
  refine v_iload_n C 2 dX1_find_12 rfl rfl ?_
  refine v_ifeq C 35 dX1_find_13 (by decide) h (fun _ h => ?_) (fun _ h => ?_)
  · refine v_sub [] [] rfl ?_
    exact hex u ((Option.some.inj h).symm ▸ g)
  · refine v_iload_n C 3 dX1_find_16 rfl rfl ?_
    refine v_sipush C (768 : Int32) dX1_find_17 (by decide) ?_
    refine v_icmpgt C 35 dX1_find_20 (by decide) h (fun _ h => ?_) (fun _ h => ?_)
    · refine v_sub [] [] rfl ?_
      exact hex u ((Option.some.inj h).symm ▸ g)
    · refine v_aload_n C 0 dX1_find_23 rfl rfl ?_
      refine v_iload_n C 1 dX1_find_24 rfl rfl ?_
      obtain ⟨y3, u4, h1, h⟩ := ob2_some h
      obtain ⟨hkd, h1⟩ := kd_some h1
      refine v_goi (rn_V C gcX1_25 (RX1, TX1, 2) rfl rfl (by decide) hkd (mX1_growOnce h1) ⟨rfl, rfl⟩ rfl ⟨Nat.le_of_ble_eq_true rfl, Nat.le_of_ble_eq_true rfl⟩ (rest := []) rfl (Nat.le_of_ble_eq_true rfl) ⟨Nat.le_of_ble_eq_true rfl, Nat.le_of_ble_eq_true rfl⟩ dX1_find_25) ?_
      refine v_istore_n C [(2, .int y3), (0, .ref (bs + a0)), (1, .int x1), (3, .int x3)] dX1_find_28 rfl (by decide) rfl ?_
      refine v_iinc C 3 (x3 + (1 : Int32)) [(3, .int (x3 + (1 : Int32))), (2, .int y3), (0, .ref (bs + a0)), (1, .int x1)] dX1_find_29 rfl rfl (by decide) rfl ?_
      refine v_goto C 12 dX1_find_32 (by decide) ?_
      refine v_sub [(0, .ref (bs + a0)), (1, .int x1), (2, .int y3), (3, .int (x3 + (1 : Int32)))] [2, 3, 1, 0] rfl ?_
      exact hk y3 (x3 + (1 : Int32)) u4 _ h g
set_option maxRecDepth 100000 in
set_option maxHeartbeats 4000000 in
theorem mX1_find {l : Launch} {D : UD} {bs : Nat} {a0 : Nat} {x1 : Int32} {u0 : UH} {v : UH} (h : fX1_find a0 x1 u0 = some v) : Met l yX1_find (wz yX1_find cX1_find 4 none) rmX1_find (va_Pc [.ref (bs + a0), .int x1] (uIn D bs u0)) (uQv D bs u0 v) 0 0 (uA bs u0) := by
  refine uMet (by decide) (Nat.le_of_ble_eq_true rfl) ?_
  intro X tw hX C hin
  have C : uCx X D bs tw cX1_find 4 RX1 none := C
  have hin : X.2.2.2.2.2.2.2.1.name = "find" := hin
  refine v_L [(0, .ref (bs + a0)), (1, .int x1)] rfl ?_
  unfold fX1_find at h
  refine v_aload_n C 0 dX1_find_0 rfl rfl ?_
  refine v_getR C fdX1_9 dX1_find_1 h (fun b1 h => ?_)
  refine v_lconst C (0 : Int64) dX1_find_4 (by decide) ?_
  obtain ⟨u2, h1, h⟩ := ob_some h
  refine v_gov (rn_S C gcX1_19 (mJ7_fill_d0a16 h1) ⟨rfl, rfl⟩ rfl ⟨Nat.le_of_ble_eq_true rfl, Nat.le_of_ble_eq_true rfl⟩ (rest := []) rfl (Nat.le_of_ble_eq_true rfl) ⟨Nat.le_of_ble_eq_true rfl, Nat.le_of_ble_eq_true rfl⟩ dX1_find_5) ?_
  refine v_iconst C (1 : Int32) dX1_find_8 (by decide) ?_
  refine v_istore_n C [(2, .int (1 : Int32)), (0, .ref (bs + a0)), (1, .int x1)] dX1_find_9 rfl (by decide) rfl ?_
  refine v_iconst C (0 : Int32) dX1_find_10 (by decide) ?_
  refine v_istore_n C [(3, .int (0 : Int32)), (2, .int (1 : Int32)), (0, .ref (bs + a0)), (1, .int x1)] dX1_find_11 rfl (by decide) rfl ?_
  refine v_sub [(0, .ref (bs + a0)), (1, .int x1), (2, .int (1 : Int32)), (3, .int (0 : Int32))] [2, 3, 1, 0] rfl ?_
  refine it3_O (V := fun x2 x3 u' => VV X D bs u0 rmX1_find 4 0 0 (MQ X.2.2.2.2.2.2.1 (uQv D bs u0 v) X.2.2.2.2.2.1 X.2.2.2.1 0 0 (uA bs u0)) u' 12 [(0, .ref (bs + a0)), (1, .int x1), (2, .int x2), (3, .int x3)] []) h (fun k_ hk_ => wX1_find_B12 C hin hk_ ?_ )
  intro z6 h
  try dsimp only [Sum.elim_inl] at h
  exact v_vret C dX1_find_35 (Option.some.inj h)
set_option maxRecDepth 100000 in
set_option maxHeartbeats 4000000 in
theorem mX11_loops {l : Launch} {D : UD} {bs : Nat} {a0 : Nat} {u0 : UH} {r : Int64} {v : UH} (h : fX11_loops a0 u0 = some (r, v)) : Met l yX11_loops (wz yX11_loops cX11_loops 1 (some .long)) rmX11_loops (va_Pc [.ref (bs + a0)] (uIn D bs u0)) (uQl D bs u0 v r) 0 0 (uA bs u0) := by
  refine uMet (by decide) (Nat.le_of_ble_eq_true rfl) ?_
  intro X tw hX C hin
  have C : uCx X D bs tw cX11_loops 1 RX11 (some .long) := C
  have hin : X.2.2.2.2.2.2.2.1.name = "loops" := hin
  refine v_L [(0, .ref (bs + a0))] rfl ?_
  unfold fX11_loops at h
  refine v_aload_n C 0 dX11_loops_0 rfl rfl ?_
  refine v_getR C fdX11_37 dX11_loops_1 h (fun b1 h => ?_)
  refine v_iconst C (-1 : Int32) dX11_loops_4 (by decide) ?_
  obtain ⟨u2, h1, h⟩ := ob_some h
  obtain ⟨hkd, h1⟩ := kd_some h1
  refine v_gov (rn_V C gcX11_283 (RX1, TX1, 2) rfl rfl (by decide) hkd (mX1_find h1) ⟨rfl, rfl⟩ rfl ⟨Nat.le_of_ble_eq_true rfl, Nat.le_of_ble_eq_true rfl⟩ (rest := []) rfl (Nat.le_of_ble_eq_true rfl) ⟨Nat.le_of_ble_eq_true rfl, Nat.le_of_ble_eq_true rfl⟩ dX11_loops_5) ?_
  refine v_aload_n C 0 dX11_loops_8 rfl rfl ?_
  refine v_getJ C fdX11_80 dX11_loops_9 h (fun y3 h => ?_)
  refine v_aload_n C 0 dX11_loops_12 rfl rfl ?_
  refine v_getR C fdX11_37 dX11_loops_13 h (fun b4 h => ?_)
  refine v_getR C fdX11_286 dX11_loops_16 h (fun b5 h => ?_)
  refine v_aload_n C 0 dX11_loops_19 rfl rfl ?_
  refine v_getI C fdX11_98 dX11_loops_20 h (fun y6 h => ?_)
  refine v_ldJ C dX11_loops_23 h (fun y7 h => ?_)
  refine v_ldc2 C (-1 : Int64) tw45 dX11_loops_24 ?_
  refine v_lxor C dX11_loops_27 ?_
  refine v_land C dX11_loops_28 ?_
  exact v_lret C dX11_loops_29 (Prod.mk.inj (Option.some.inj h)).2 (Prod.mk.inj (Option.some.inj h)).1
set_option maxRecDepth 100000 in
set_option maxHeartbeats 4000000 in
theorem mX0_enqueue {l : Launch} {D : UD} {bs : Nat} {a0 : Nat} {x1 : Int32} {x2 : Int32} {x3 : Int64} {u0 : UH} {v : UH} (h : fX0_enqueue a0 x1 x2 x3 u0 = some v) : Met l yX0_enqueue (wz yX0_enqueue cX0_enqueue 5 none) rmX0_enqueue (va_Pc [.ref (bs + a0), .int x1, .int x2, .long x3] (uIn D bs u0)) (uQv D bs u0 v) 0 0 (uA bs u0) := by
  refine uMet (by decide) (Nat.le_of_ble_eq_true rfl) ?_
  intro X tw hX C hin
  have C : uCx X D bs tw cX0_enqueue 5 RX0 none := C
  have hin : X.2.2.2.2.2.2.2.1.name = "enqueue" := hin
  refine v_L [(0, .ref (bs + a0)), (1, .int x1), (2, .int x2), (3, .long x3)] rfl ?_
  unfold fX0_enqueue at h
  refine v_aload_n C 0 dX0_enqueue_0 rfl rfl ?_
  refine v_getR C fdX0_28 dX0_enqueue_1 h (fun b1 h => ?_)
  refine v_iload_n C 1 dX0_enqueue_4 rfl rfl ?_
  refine v_ldJ C dX0_enqueue_5 h (fun y2 h => ?_)
  refine v_iload_n C 2 dX0_enqueue_6 rfl rfl ?_
  obtain ⟨y3, h1, h⟩ := ob_some h
  refine v_goi (rn_N C gcX0_82 (mX11_hasHeader h1) ⟨rfl, rfl⟩ rfl ⟨Nat.le_of_ble_eq_true rfl, Nat.le_of_ble_eq_true rfl⟩ (rest := []) rfl (Nat.le_of_ble_eq_true rfl) ⟨Nat.le_of_ble_eq_true rfl, Nat.le_of_ble_eq_true rfl⟩ dX0_enqueue_7) ?_
  refine v_ifne C 70 dX0_enqueue_10 (by decide) h (fun _ h => ?_) (fun _ h => ?_)
  · exact v_vret C dX0_enqueue_70 (Option.some.inj h)
  · refine v_aload_n C 0 dX0_enqueue_13 rfl rfl ?_
    refine v_getI C fdX0_79 dX0_enqueue_14 h (fun y4 h => ?_)
    refine v_sipush C (768 : Int32) dX0_enqueue_17 (by decide) ?_
    refine v_icmpge C 70 dX0_enqueue_20 (by decide) h (fun _ h => ?_) (fun _ h => ?_)
    · exact v_vret C dX0_enqueue_70 (Option.some.inj h)
    · refine v_aload_n C 0 dX0_enqueue_23 rfl rfl ?_
      refine v_getR C fdX0_28 dX0_enqueue_24 h (fun b5 h => ?_)
      refine v_iload_n C 1 dX0_enqueue_27 rfl rfl ?_
      refine v_dup2 C dX0_enqueue_28 rfl rfl ?_
      refine v_ldJ C dX0_enqueue_29 h (fun y6 h => ?_)
      refine v_lconst C (1 : Int64) dX0_enqueue_30 (by decide) ?_
      refine v_iload_n C 2 dX0_enqueue_31 rfl rfl ?_
      refine v_lshl C dX0_enqueue_32 ?_
      refine v_lor C dX0_enqueue_33 ?_
      refine v_stJ C dX0_enqueue_34 h (fun u7 h => ?_)
      refine v_aload_n C 0 dX0_enqueue_35 rfl rfl ?_
      refine v_getR C fdX0_22 dX0_enqueue_36 h (fun b8 h => ?_)
      refine v_aload_n C 0 dX0_enqueue_39 rfl rfl ?_
      refine v_getI C fdX0_79 dX0_enqueue_40 h (fun y9 h => ?_)
      refine v_iload_n C 1 dX0_enqueue_43 rfl rfl ?_
      refine v_bipush C (32 : Int32) dX0_enqueue_44 (by decide) ?_
      refine v_imul C dX0_enqueue_46 ?_
      refine v_iload_n C 2 dX0_enqueue_47 rfl rfl ?_
      refine v_iadd C dX0_enqueue_48 ?_
      refine v_stI C dX0_enqueue_49 h (fun u10 h => ?_)
      refine v_aload_n C 0 dX0_enqueue_50 rfl rfl ?_
      refine v_getR C fdX0_25 dX0_enqueue_51 h (fun b11 h => ?_)
      refine v_aload_n C 0 dX0_enqueue_54 rfl rfl ?_
      refine v_getI C fdX0_79 dX0_enqueue_55 h (fun y12 h => ?_)
      refine v_lload_n C 3 dX0_enqueue_58 rfl rfl ?_
      refine v_stJ C dX0_enqueue_59 h (fun u13 h => ?_)
      refine v_aload_n C 0 dX0_enqueue_60 rfl rfl ?_
      refine v_dup C dX0_enqueue_61 rfl ?_
      refine v_getI C fdX0_79 dX0_enqueue_62 h (fun y14 h => ?_)
      refine v_iconst C (1 : Int32) dX0_enqueue_65 (by decide) ?_
      refine v_iadd C dX0_enqueue_66 ?_
      refine v_putI C fdX0_79 (fun h => by cases h) dX0_enqueue_67 h (fun u15 h => ?_)
      exact v_vret C dX0_enqueue_70 (Option.some.inj h)
set_option maxRecDepth 100000 in
set_option maxHeartbeats 4000000 in
theorem mX0_handlingSlot {l : Launch} {D : UD} {bs : Nat} {a0 : Nat} {x1 : Int32} {x2 : Int64} {u0 : UH} {r : Int32} (h : fX0_handlingSlot a0 x1 x2 u0 = some r) : Met l yX0_handlingSlot (wz yX0_handlingSlot cX0_handlingSlot 9 (some .int)) rmX0_handlingSlot (va_Pc [.ref (bs + a0), .int x1, .long x2] (uIn D bs u0)) (uQi D bs u0 u0 r) 0 0 (uA bs u0) := by
  refine uMet (by decide) (Nat.le_of_ble_eq_true rfl) ?_
  intro X tw hX C hin
  have C : uCx X D bs tw cX0_handlingSlot 9 RX0 (some .int) := C
  have hin : X.2.2.2.2.2.2.2.1.name = "handlingSlot" := hin
  refine v_L [(0, .ref (bs + a0)), (1, .int x1), (2, .long x2)] rfl ?_
  unfold fX0_handlingSlot at h
  refine v_aload_n C 0 dX0_handlingSlot_0 rfl rfl ?_
  refine v_getR C fdX0_22 dX0_handlingSlot_1 h (fun b1 h => ?_)
  refine v_iload_n C 1 dX0_handlingSlot_4 rfl rfl ?_
  refine v_ldI C dX0_handlingSlot_5 h (fun y2 h => ?_)
  refine v_bipush C (32 : Int32) dX0_handlingSlot_6 (by decide) ?_
  refine v_idiv C dX0_handlingSlot_8 (by decide) ?_
  refine v_lti h (fun y3 h => ?_)
  refine v_istore C [(4, .int y3), (0, .ref (bs + a0)), (1, .int x1), (2, .long x2)] dX0_handlingSlot_9 (by decide) rfl ?_
  refine v_iload C 0 dX0_handlingSlot_11 rfl ?_
  refine v_iconst C (4 : Int32) dX0_handlingSlot_13 (by decide) ?_
  refine v_idiv C dX0_handlingSlot_14 (by decide) ?_
  refine v_bipush C (6 : Int32) dX0_handlingSlot_15 (by decide) ?_
  refine v_imul C dX0_handlingSlot_17 ?_
  refine v_lti h (fun y4 h => ?_)
  refine v_istore C [(5, .int y4), (4, .int y3), (0, .ref (bs + a0)), (1, .int x1), (2, .long x2)] dX0_handlingSlot_18 (by decide) rfl ?_
  refine v_lload_n C 4 dX0_handlingSlot_20 rfl rfl ?_
  refine v_iload C 0 dX0_handlingSlot_21 rfl ?_
  refine v_lushr C dX0_handlingSlot_23 ?_
  refine v_l2i C dX0_handlingSlot_24 ?_
  refine v_lti h (fun y5 h => ?_)
  refine v_istore C [(6, .int y5), (5, .int y4), (4, .int y3), (0, .ref (bs + a0)), (1, .int x1), (2, .long x2)] dX0_handlingSlot_25 (by decide) rfl ?_
  refine v_aload_n C 3 dX0_handlingSlot_27 rfl rfl ?_
  refine v_getR C fdX0_31 dX0_handlingSlot_28 h (fun b6 h => ?_)
  refine v_getR C fdX0_97 dX0_handlingSlot_31 h (fun b7 h => ?_)
  refine v_iload C 2 dX0_handlingSlot_34 rfl ?_
  refine v_iconst C (4 : Int32) dX0_handlingSlot_36 (by decide) ?_
  refine v_idiv C dX0_handlingSlot_37 (by decide) ?_
  refine v_ldR C 26 _ rfl (by decide) dX0_handlingSlot_38 h (fun b8 h => ?_)
  refine v_astore C [(7, .ref (bs + b8)), (6, .int y5), (5, .int y4), (4, .int y3), (0, .ref (bs + a0)), (1, .int x1), (2, .long x2)] dX0_handlingSlot_39 (by decide) rfl ?_
  refine v_aload C 0 dX0_handlingSlot_41 rfl ?_
  refine v_iload C 3 dX0_handlingSlot_43 rfl ?_
  refine v_iconst C (4 : Int32) dX0_handlingSlot_45 (by decide) ?_
  refine v_irem C dX0_handlingSlot_46 (by decide) ?_
  refine v_aload_n C 4 dX0_handlingSlot_47 rfl rfl ?_
  refine v_getR C fdX0_22 dX0_handlingSlot_48 h (fun b9 h => ?_)
  refine v_iload_n C 5 dX0_handlingSlot_51 rfl rfl ?_
  refine v_ldI C dX0_handlingSlot_52 h (fun y10 h => ?_)
  refine v_bipush C (32 : Int32) dX0_handlingSlot_53 (by decide) ?_
  refine v_irem C dX0_handlingSlot_55 (by decide) ?_
  refine v_iload C 1 dX0_handlingSlot_56 rfl ?_
  obtain ⟨y11, h1, h⟩ := ob_some h
  obtain ⟨hkd, h1⟩ := kd_some h1
  refine v_goi (rn_V C gcX0_103 (RX7, TX7, 2) rfl rfl (by decide) hkd (mX7_handler h1) ⟨rfl, rfl⟩ rfl ⟨Nat.le_of_ble_eq_true rfl, Nat.le_of_ble_eq_true rfl⟩ (rest := []) rfl (Nat.le_of_ble_eq_true rfl) ⟨Nat.le_of_ble_eq_true rfl, Nat.le_of_ble_eq_true rfl⟩ dX0_handlingSlot_58) ?_
  refine v_istore C [(8, .int y11), (7, .ref (bs + b8)), (6, .int y5), (5, .int y4), (4, .int y3), (0, .ref (bs + a0)), (1, .int x1), (2, .long x2)] dX0_handlingSlot_61 (by decide) rfl ?_
  refine v_iload C 0 dX0_handlingSlot_63 rfl ?_
  refine v_iconst C (-1 : Int32) dX0_handlingSlot_65 (by decide) ?_
  refine v_icmpne C 73 dX0_handlingSlot_66 (by decide) h (fun _ h => ?_) (fun _ h => ?_)
  · refine v_iload C 3 dX0_handlingSlot_73 rfl ?_
    refine v_iload C 0 dX0_handlingSlot_75 rfl ?_
    refine v_iadd C dX0_handlingSlot_77 ?_
    exact v_iret C dX0_handlingSlot_78 rfl (Option.some.inj h)
  · refine v_iconst C (-1 : Int32) dX0_handlingSlot_69 (by decide) ?_
    refine v_goto C 78 dX0_handlingSlot_70 (by decide) ?_
    exact v_iret C dX0_handlingSlot_78 rfl (Option.some.inj h)
set_option maxRecDepth 100000 in
set_option maxHeartbeats 4000000 in
theorem wX0_reachesTarget_B55 {X : UX} {D : UD} {bs tw : Nat} {u0 : UH} {r : Int32} {v : UH} (C : uCx X D bs tw cX0_reachesTarget 10 RX0 (some .boolean)) (hin : X.2.2.2.2.2.2.2.1.name = "reachesTarget") {a0 : Nat} {x3 : Int32} {a4 : Nat} {x5 : Int32} {x6 : Int64}  {G : (UH ⊕ (Int32 × UH)) → Prop} {k : Int32 → UH → Option (UH ⊕ (Int32 × UH))} (hk : ∀ (x8 : Int32) (u' : UH) e, k x8 u' = some e → G e → VV X D bs u0 rmX0_reachesTarget 10 0 0 (MQ X.2.2.2.2.2.2.1 (uQi D bs u0 v r) X.2.2.2.2.2.1 X.2.2.2.1 0 0 (uA bs u0)) u' 55 [(0, .ref (bs + a0)), (3, .int x3), (4, .ref (bs + a4)), (5, .int x5), (6, .long x6), (8, .int x8)] []) (hex : ∀  (u' : UH), G (Sum.inl u') → VV X D bs u0 rmX0_reachesTarget 10 0 0 (MQ X.2.2.2.2.2.2.1 (uQi D bs u0 v r) X.2.2.2.2.2.1 X.2.2.2.1 0 0 (uA bs u0)) u' 130 [] []) (hret : ∀ x, G (Sum.inr x) → x = (r, v)) : ∀ (x8 : Int32) (u : UH) e, fX0_reachesTarget_B55 a0 x3 a4 x5 x6  k x8 u = some e → G e → VV X D bs u0 rmX0_reachesTarget 10 0 0 (MQ X.2.2.2.2.2.2.1 (uQi D bs u0 v r) X.2.2.2.2.2.1 X.2.2.2.1 0 0 (uA bs u0)) u 55 [(0, .ref (bs + a0)), (3, .int x3), (4, .ref (bs + a4)), (5, .int x5), (6, .long x6), (8, .int x8)] [] := by
  intro x8 u e h g
  unfold fX0_reachesTarget_B55 at h
  refine v_iload C 5 dX0_reachesTarget_55 rfl ?_
  refine v_iconst C (4 : Int32) dX0_reachesTarget_57 (by decide) ?_
  refine v_icmpge C 130 dX0_reachesTarget_58 (by decide) h (fun _ h => ?_) (fun _ h => ?_)
  · refine v_sub [] [] rfl ?_
    exact hex u ((Option.some.inj h).symm ▸ g)
  · refine v_aload C 2 dX0_reachesTarget_61 rfl ?_
    refine v_getI C fdX0_119 dX0_reachesTarget_63 h (fun y13 h => ?_)
    refine v_iload C 5 dX0_reachesTarget_66 rfl ?_
    obtain ⟨y14, h1, h⟩ := ob_some h
    refine v_goi (rn_N C gcX0_122 (mX11_hasPort h1) ⟨rfl, rfl⟩ rfl ⟨Nat.le_of_ble_eq_true rfl, Nat.le_of_ble_eq_true rfl⟩ (rest := []) rfl (Nat.le_of_ble_eq_true rfl) ⟨Nat.le_of_ble_eq_true rfl, Nat.le_of_ble_eq_true rfl⟩ dX0_reachesTarget_68) ?_
    refine v_ifeq C 124 dX0_reachesTarget_71 (by decide) h (fun _ h => ?_) (fun _ h => ?_)
    · refine v_iinc C 5 (x8 + (1 : Int32)) [(8, .int (x8 + (1 : Int32))), (0, .ref (bs + a0)), (3, .int x3), (4, .ref (bs + a4)), (5, .int x5), (6, .long x6)] dX0_reachesTarget_124 rfl rfl (by decide) rfl ?_
      refine v_goto C 55 dX0_reachesTarget_127 (by decide) ?_
      refine v_sub [(0, .ref (bs + a0)), (3, .int x3), (4, .ref (bs + a4)), (5, .int x5), (6, .long x6), (8, .int (x8 + (1 : Int32)))] [1, 2, 3, 4, 5, 0] rfl ?_
      exact hk (x8 + (1 : Int32)) u _ h g
    · refine v_aload_n C 0 dX0_reachesTarget_74 rfl rfl ?_
      refine v_getR C fdX0_31 dX0_reachesTarget_75 h (fun b15 h => ?_)
      refine v_getR C fdX0_125 dX0_reachesTarget_78 h (fun b16 h => ?_)
      refine v_iload_n C 1 dX0_reachesTarget_81 rfl rfl ?_
      refine v_iload C 5 dX0_reachesTarget_82 rfl ?_
      obtain ⟨y17, h1, h⟩ := ob_some h
      refine v_goi (rn_N C gcX0_128 (mX11_placeOf h1) ⟨rfl, rfl⟩ rfl ⟨Nat.le_of_ble_eq_true rfl, Nat.le_of_ble_eq_true rfl⟩ (rest := [.ref (bs + b16)]) rfl (Nat.le_of_ble_eq_true rfl) ⟨Nat.le_of_ble_eq_true rfl, Nat.le_of_ble_eq_true rfl⟩ dX0_reachesTarget_84) ?_
      refine v_ldI C dX0_reachesTarget_87 h (fun y18 h => ?_)
      refine v_istore C [(9, .int y18), (0, .ref (bs + a0)), (3, .int x3), (4, .ref (bs + a4)), (5, .int x5), (6, .long x6), (8, .int x8)] dX0_reachesTarget_88 (by decide) rfl ?_
      refine v_iload C 0 dX0_reachesTarget_90 rfl ?_
      refine v_iconst C (-1 : Int32) dX0_reachesTarget_92 (by decide) ?_
      refine v_icmpeq C 109 dX0_reachesTarget_93 (by decide) h (fun _ h => ?_) (fun _ h => ?_)
      · refine v_iload_n C 2 dX0_reachesTarget_109 rfl rfl ?_
        refine v_iload C 6 dX0_reachesTarget_110 rfl ?_
        obtain ⟨y19, h1, h⟩ := ob_some h
        refine v_goi (rn_N C gcX0_128 (mX11_placeOf h1) ⟨rfl, rfl⟩ rfl ⟨Nat.le_of_ble_eq_true rfl, Nat.le_of_ble_eq_true rfl⟩ (rest := []) rfl (Nat.le_of_ble_eq_true rfl) ⟨Nat.le_of_ble_eq_true rfl, Nat.le_of_ble_eq_true rfl⟩ dX0_reachesTarget_112) ?_
        refine v_aload_n C 1 dX0_reachesTarget_115 rfl rfl ?_
        refine v_getI C fdX0_43 dX0_reachesTarget_116 h (fun y20 h => ?_)
        refine v_icmpne C 124 dX0_reachesTarget_119 (by decide) h (fun _ h => ?_) (fun _ h => ?_)
        · refine v_iinc C 6 (x8 + (1 : Int32)) [(8, .int (x8 + (1 : Int32))), (9, .int y18), (0, .ref (bs + a0)), (3, .int x3), (4, .ref (bs + a4)), (5, .int x5), (6, .long x6)] dX0_reachesTarget_124 rfl rfl (by decide) rfl ?_
          refine v_goto C 55 dX0_reachesTarget_127 (by decide) ?_
          refine v_sub [(0, .ref (bs + a0)), (3, .int x3), (4, .ref (bs + a4)), (5, .int x5), (6, .long x6), (8, .int (x8 + (1 : Int32)))] [2, 3, 4, 5, 6, 0] rfl ?_
          exact hk (x8 + (1 : Int32)) u _ h g
        · refine v_iconst C (1 : Int32) dX0_reachesTarget_122 (by decide) ?_
          have h := hret ((1 : Int32), u) ((Option.some.inj h).symm ▸ g)
          exact v_zret C dX0_reachesTarget_123 (Prod.mk.inj h).2 (Prod.mk.inj h).1 rfl
      · refine v_aload_n C 1 dX0_reachesTarget_96 rfl rfl ?_
        refine v_iload C 0 dX0_reachesTarget_97 rfl ?_
        refine v_iload C 4 dX0_reachesTarget_99 rfl ?_
        refine v_lload C 5 dX0_reachesTarget_101 rfl ?_
        obtain ⟨u21, h1, h⟩ := ob_some h
        obtain ⟨hkd, h1⟩ := kd_some h1
        refine v_gov (rn_V C gcX0_85 (RX0, TX0, 11) rfl rfl (by decide) hkd (mX0_enqueue h1) ⟨rfl, rfl⟩ rfl ⟨Nat.le_of_ble_eq_true rfl, Nat.le_of_ble_eq_true rfl⟩ (rest := []) rfl (Nat.le_of_ble_eq_true rfl) ⟨Nat.le_of_ble_eq_true rfl, Nat.le_of_ble_eq_true rfl⟩ dX0_reachesTarget_103) ?_
        refine v_goto C 124 dX0_reachesTarget_106 (by decide) ?_
        refine v_iinc C 6 (x8 + (1 : Int32)) [(8, .int (x8 + (1 : Int32))), (9, .int y18), (0, .ref (bs + a0)), (3, .int x3), (4, .ref (bs + a4)), (5, .int x5), (6, .long x6)] dX0_reachesTarget_124 rfl rfl (by decide) rfl ?_
        refine v_goto C 55 dX0_reachesTarget_127 (by decide) ?_
        refine v_sub [(0, .ref (bs + a0)), (3, .int x3), (4, .ref (bs + a4)), (5, .int x5), (6, .long x6), (8, .int (x8 + (1 : Int32)))] [2, 3, 4, 5, 6, 0] rfl ?_
        exact hk (x8 + (1 : Int32)) u21 _ h g
set_option maxRecDepth 100000 in
set_option maxHeartbeats 4000000 in
theorem mX0_reachesTarget {l : Launch} {D : UD} {bs : Nat} {a0 : Nat} {x1 : Int32} {x2 : Int32} {u0 : UH} {r : Int32} {v : UH} (h : fX0_reachesTarget a0 x1 x2 u0 = some (r, v)) : Met l yX0_reachesTarget (wz yX0_reachesTarget cX0_reachesTarget 10 (some .boolean)) rmX0_reachesTarget (va_Pc [.ref (bs + a0), .int x1, .int x2] (uIn D bs u0)) (uQi D bs u0 v r) 0 0 (uA bs u0) := by
  refine uMet (by decide) (Nat.le_of_ble_eq_true rfl) ?_
  intro X tw hX C hin
  have C : uCx X D bs tw cX0_reachesTarget 10 RX0 (some .boolean) := C
  have hin : X.2.2.2.2.2.2.2.1.name = "reachesTarget" := hin
  refine v_L [(0, .ref (bs + a0)), (1, .int x1), (2, .int x2)] rfl ?_
  unfold fX0_reachesTarget at h
  refine v_iload_n C 2 dX0_reachesTarget_0 rfl rfl ?_
  refine v_bipush C (6 : Int32) dX0_reachesTarget_1 (by decide) ?_
  refine v_idiv C dX0_reachesTarget_3 (by decide) ?_
  refine v_lti h (fun y1 h => ?_)
  refine v_istore_n C [(3, .int y1), (0, .ref (bs + a0)), (1, .int x1), (2, .int x2)] dX0_reachesTarget_4 rfl (by decide) rfl ?_
  refine v_aload_n C 1 dX0_reachesTarget_5 rfl rfl ?_
  refine v_getR C fdX0_31 dX0_reachesTarget_6 h (fun b2 h => ?_)
  refine v_getR C fdX0_97 dX0_reachesTarget_9 h (fun b3 h => ?_)
  refine v_iload_n C 0 dX0_reachesTarget_12 rfl rfl ?_
  refine v_ldR C 26 _ rfl (by decide) dX0_reachesTarget_13 h (fun b4 h => ?_)
  refine v_getR C fdX0_109 dX0_reachesTarget_14 h (fun b5 h => ?_)
  refine v_iload_n C 3 dX0_reachesTarget_17 rfl rfl ?_
  refine v_bipush C (6 : Int32) dX0_reachesTarget_18 (by decide) ?_
  refine v_irem C dX0_reachesTarget_20 (by decide) ?_
  refine v_ldR C 25 _ rfl (by decide) dX0_reachesTarget_21 h (fun b6 h => ?_)
  refine v_astore C [(4, .ref (bs + b6)), (3, .int y1), (0, .ref (bs + a0)), (1, .int x1), (2, .int x2)] dX0_reachesTarget_22 (by decide) rfl ?_
  refine v_aload C 0 dX0_reachesTarget_24 rfl ?_
  refine v_aload_n C 2 dX0_reachesTarget_26 rfl rfl ?_
  refine v_getR C fdX0_22 dX0_reachesTarget_27 h (fun b7 h => ?_)
  refine v_iload_n C 3 dX0_reachesTarget_30 rfl rfl ?_
  refine v_ldI C dX0_reachesTarget_31 h (fun y8 h => ?_)
  refine v_bipush C (32 : Int32) dX0_reachesTarget_32 (by decide) ?_
  refine v_irem C dX0_reachesTarget_34 (by decide) ?_
  obtain ⟨y9, h1, h⟩ := ob_some h
  obtain ⟨hkd, h1⟩ := kd_some h1
  refine v_goi (rn_V C gcX0_113 (RX6, TX6, 8) rfl rfl (by decide) hkd (mX6_rewritten h1) ⟨rfl, rfl⟩ rfl ⟨Nat.le_of_ble_eq_true rfl, Nat.le_of_ble_eq_true rfl⟩ (rest := []) rfl (Nat.le_of_ble_eq_true rfl) ⟨Nat.le_of_ble_eq_true rfl, Nat.le_of_ble_eq_true rfl⟩ dX0_reachesTarget_35) ?_
  refine v_istore C [(5, .int y9), (4, .ref (bs + b6)), (3, .int y1), (0, .ref (bs + a0)), (1, .int x1), (2, .int x2)] dX0_reachesTarget_38 (by decide) rfl ?_
  refine v_aload_n C 3 dX0_reachesTarget_40 rfl rfl ?_
  refine v_getR C fdX0_25 dX0_reachesTarget_41 h (fun b10 h => ?_)
  refine v_iload_n C 4 dX0_reachesTarget_44 rfl rfl ?_
  refine v_ldJ C dX0_reachesTarget_45 h (fun y11 h => ?_)
  refine v_lconst C (1 : Int64) dX0_reachesTarget_46 (by decide) ?_
  refine v_iload_n C 5 dX0_reachesTarget_47 rfl rfl ?_
  refine v_lshl C dX0_reachesTarget_48 ?_
  refine v_lor C dX0_reachesTarget_49 ?_
  refine v_ltl h (fun y12 h => ?_)
  refine v_lstore C [(6, .long y12), (5, .int y9), (4, .ref (bs + b6)), (3, .int y1), (0, .ref (bs + a0)), (1, .int x1), (2, .int x2)] dX0_reachesTarget_50 (by decide) rfl ?_
  refine v_iconst C (0 : Int32) dX0_reachesTarget_52 (by decide) ?_
  refine v_istore C [(8, .int (0 : Int32)), (6, .long y12), (5, .int y9), (4, .ref (bs + b6)), (3, .int y1), (0, .ref (bs + a0)), (1, .int x1), (2, .int x2)] dX0_reachesTarget_53 (by decide) rfl ?_
  refine v_sub [(0, .ref (bs + a0)), (3, .int y1), (4, .ref (bs + b6)), (5, .int y9), (6, .long y12), (8, .int (0 : Int32))] [5, 4, 3, 2, 1, 0] rfl ?_
  refine it2_S (V := fun x8 u' => VV X D bs u0 rmX0_reachesTarget 10 0 0 (MQ X.2.2.2.2.2.2.1 (uQi D bs u0 v r) X.2.2.2.2.2.1 X.2.2.2.1 0 0 (uA bs u0)) u' 55 [(0, .ref (bs + a0)), (3, .int y1), (4, .ref (bs + b6)), (5, .int y9), (6, .long y12), (8, .int x8)] []) h (fun k_ hk_ => wX0_reachesTarget_B55 C hin hk_ ?_ (fun x hx => Option.some.inj (show some x = some _ from hx)))
  intro z23 h
  try dsimp only [Sum.elim_inl] at h
  refine v_iconst C (0 : Int32) dX0_reachesTarget_130 (by decide) ?_
  exact v_zret C dX0_reachesTarget_131 (Prod.mk.inj (Option.some.inj h)).2 (Prod.mk.inj (Option.some.inj h)).1 rfl
set_option maxRecDepth 100000 in
set_option maxHeartbeats 4000000 in
theorem wX0_openWay_B15 {X : UX} {D : UD} {bs tw : Nat} {u0 : UH} {r : Int64} {v : UH} (C : uCx X D bs tw cX0_openWay 5 RX0 (some .long)) (hin : X.2.2.2.2.2.2.2.1.name = "openWay") {a0 : Nat} {x1 : Int64}  {G : UH → Prop} {k : Int32 → UH → Option UH} (hk : ∀ (x3 : Int32) (u' : UH) e, k x3 u' = some e → G e → VV X D bs u0 rmX0_openWay 5 0 0 (MQ X.2.2.2.2.2.2.1 (uQl D bs u0 v r) X.2.2.2.2.2.1 X.2.2.2.1 0 0 (uA bs u0)) u' 15 [(0, .ref (bs + a0)), (1, .long x1), (3, .int x3)] []) (hex : ∀  (u' : UH), G u' → VV X D bs u0 rmX0_openWay 5 0 0 (MQ X.2.2.2.2.2.2.1 (uQl D bs u0 v r) X.2.2.2.2.2.1 X.2.2.2.1 0 0 (uA bs u0)) u' 48 [(0, .ref (bs + a0)), (1, .long x1)] [])  : ∀ (x3 : Int32) (u : UH) e, fX0_openWay_B15 a0  k x3 u = some e → G e → VV X D bs u0 rmX0_openWay 5 0 0 (MQ X.2.2.2.2.2.2.1 (uQl D bs u0 v r) X.2.2.2.2.2.1 X.2.2.2.1 0 0 (uA bs u0)) u 15 [(0, .ref (bs + a0)), (1, .long x1), (3, .int x3)] [] := by
  intro x3 u e h g
  unfold fX0_openWay_B15 at h
  refine v_iload_n C 2 dX0_openWay_15 rfl rfl ?_
  refine v_bipush C (32 : Int32) dX0_openWay_16 (by decide) ?_
  refine v_icmpge C 48 dX0_openWay_18 (by decide) h (fun _ h => ?_) (fun _ h => ?_)
  · refine v_sub [(0, .ref (bs + a0)), (1, .long x1)] [0, 1] rfl ?_
    exact hex u ((Option.some.inj h).symm ▸ g)
  · refine v_aload_n C 0 dX0_openWay_21 rfl rfl ?_
    refine v_getJ C fdX0_39 dX0_openWay_22 h (fun y4 h => ?_)
    refine v_iload_n C 2 dX0_openWay_25 rfl rfl ?_
    obtain ⟨y5, h1, h⟩ := ob_some h
    refine v_goi (rn_N C gcX0_82 (mX11_hasHeader h1) ⟨rfl, rfl⟩ rfl ⟨Nat.le_of_ble_eq_true rfl, Nat.le_of_ble_eq_true rfl⟩ (rest := []) rfl (Nat.le_of_ble_eq_true rfl) ⟨Nat.le_of_ble_eq_true rfl, Nat.le_of_ble_eq_true rfl⟩ dX0_openWay_26) ?_
    refine v_ifeq C 42 dX0_openWay_29 (by decide) h (fun _ h => ?_) (fun _ h => ?_)
    · refine v_iinc C 2 (x3 + (1 : Int32)) [(3, .int (x3 + (1 : Int32))), (0, .ref (bs + a0)), (1, .long x1)] dX0_openWay_42 rfl rfl (by decide) rfl ?_
      refine v_goto C 15 dX0_openWay_45 (by decide) ?_
      refine v_sub [(0, .ref (bs + a0)), (1, .long x1), (3, .int (x3 + (1 : Int32)))] [1, 2, 0] rfl ?_
      exact hk (x3 + (1 : Int32)) u _ h g
    · refine v_aload_n C 0 dX0_openWay_32 rfl rfl ?_
      refine v_aload_n C 0 dX0_openWay_33 rfl rfl ?_
      refine v_getI C fdX0_35 dX0_openWay_34 h (fun y6 h => ?_)
      refine v_iload_n C 2 dX0_openWay_37 rfl rfl ?_
      refine v_lconst C (0 : Int64) dX0_openWay_38 (by decide) ?_
      obtain ⟨u7, h1, h⟩ := ob_some h
      obtain ⟨hkd, h1⟩ := kd_some h1
      refine v_gov (rn_V C gcX0_85 (RX0, TX0, 11) rfl rfl (by decide) hkd (mX0_enqueue h1) ⟨rfl, rfl⟩ rfl ⟨Nat.le_of_ble_eq_true rfl, Nat.le_of_ble_eq_true rfl⟩ (rest := []) rfl (Nat.le_of_ble_eq_true rfl) ⟨Nat.le_of_ble_eq_true rfl, Nat.le_of_ble_eq_true rfl⟩ dX0_openWay_39) ?_
      refine v_iinc C 2 (x3 + (1 : Int32)) [(3, .int (x3 + (1 : Int32))), (0, .ref (bs + a0)), (1, .long x1)] dX0_openWay_42 rfl rfl (by decide) rfl ?_
      refine v_goto C 15 dX0_openWay_45 (by decide) ?_
      refine v_sub [(0, .ref (bs + a0)), (1, .long x1), (3, .int (x3 + (1 : Int32)))] [1, 2, 0] rfl ?_
      exact hk (x3 + (1 : Int32)) u7 _ h g
set_option maxRecDepth 100000 in
set_option maxHeartbeats 4000000 in
theorem wX0_openWay_B50 {X : UX} {D : UD} {bs tw : Nat} {u0 : UH} {r : Int64} {v : UH} (C : uCx X D bs tw cX0_openWay 5 RX0 (some .long)) (hin : X.2.2.2.2.2.2.2.1.name = "openWay") {a0 : Nat} {x1 : Int64}  {G : (UH ⊕ (Int64 × UH)) → Prop} {k : Int32 → UH → Option (UH ⊕ (Int64 × UH))} (hk : ∀ (x3 : Int32) (u' : UH) e, k x3 u' = some e → G e → VV X D bs u0 rmX0_openWay 5 0 0 (MQ X.2.2.2.2.2.2.1 (uQl D bs u0 v r) X.2.2.2.2.2.1 X.2.2.2.1 0 0 (uA bs u0)) u' 50 [(0, .ref (bs + a0)), (1, .long x1), (3, .int x3)] []) (hex : ∀  (u' : UH), G (Sum.inl u') → VV X D bs u0 rmX0_openWay 5 0 0 (MQ X.2.2.2.2.2.2.1 (uQl D bs u0 v r) X.2.2.2.2.2.1 X.2.2.2.1 0 0 (uA bs u0)) u' 107 [] []) (hret : ∀ x, G (Sum.inr x) → x = (r, v)) : ∀ (x3 : Int32) (u : UH) e, fX0_openWay_B50 a0 x1  k x3 u = some e → G e → VV X D bs u0 rmX0_openWay 5 0 0 (MQ X.2.2.2.2.2.2.1 (uQl D bs u0 v r) X.2.2.2.2.2.1 X.2.2.2.1 0 0 (uA bs u0)) u 50 [(0, .ref (bs + a0)), (1, .long x1), (3, .int x3)] [] := by
  intro x3 u e h g
  unfold fX0_openWay_B50 at h
  refine v_iload_n C 2 dX0_openWay_50 rfl rfl ?_
  refine v_aload_n C 0 dX0_openWay_51 rfl rfl ?_
  refine v_getI C fdX0_79 dX0_openWay_52 h (fun y10 h => ?_)
  refine v_icmpge C 107 dX0_openWay_55 (by decide) h (fun _ h => ?_) (fun _ h => ?_)
  · refine v_sub [] [] rfl ?_
    exact hex u ((Option.some.inj h).symm ▸ g)
  · refine v_iload_n C 2 dX0_openWay_58 rfl rfl ?_
    refine v_sipush C (768 : Int32) dX0_openWay_59 (by decide) ?_
    refine v_icmpge C 107 dX0_openWay_62 (by decide) h (fun _ h => ?_) (fun _ h => ?_)
    · refine v_sub [] [] rfl ?_
      exact hex u ((Option.some.inj h).symm ▸ g)
    · refine v_aload_n C 0 dX0_openWay_65 rfl rfl ?_
      refine v_iload_n C 2 dX0_openWay_66 rfl rfl ?_
      refine v_lload_n C 1 dX0_openWay_67 rfl rfl ?_
      obtain ⟨y11, h1, h⟩ := ob_some h
      obtain ⟨hkd, h1⟩ := kd_some h1
      refine v_goi (rn_V C gcX0_89 (RX0, TX0, 11) rfl rfl (by decide) hkd (mX0_handlingSlot h1) ⟨rfl, rfl⟩ rfl ⟨Nat.le_of_ble_eq_true rfl, Nat.le_of_ble_eq_true rfl⟩ (rest := []) rfl (Nat.le_of_ble_eq_true rfl) ⟨Nat.le_of_ble_eq_true rfl, Nat.le_of_ble_eq_true rfl⟩ dX0_openWay_68) ?_
      refine v_istore C [(4, .int y11), (0, .ref (bs + a0)), (1, .long x1), (3, .int x3)] dX0_openWay_71 (by decide) rfl ?_
      refine v_iload C 0 dX0_openWay_73 rfl ?_
      refine v_iconst C (-1 : Int32) dX0_openWay_75 (by decide) ?_
      refine v_icmpeq C 101 dX0_openWay_76 (by decide) h (fun _ h => ?_) (fun _ h => ?_)
      · refine v_iinc C 3 (x3 + (1 : Int32)) [(3, .int (x3 + (1 : Int32))), (4, .int y11), (0, .ref (bs + a0)), (1, .long x1)] dX0_openWay_101 rfl rfl (by decide) rfl ?_
        refine v_goto C 50 dX0_openWay_104 (by decide) ?_
        refine v_sub [(0, .ref (bs + a0)), (1, .long x1), (3, .int (x3 + (1 : Int32)))] [2, 3, 0] rfl ?_
        exact hk (x3 + (1 : Int32)) u _ h g
      · refine v_aload_n C 1 dX0_openWay_79 rfl rfl ?_
        refine v_iload_n C 3 dX0_openWay_80 rfl rfl ?_
        refine v_iload C 0 dX0_openWay_81 rfl ?_
        obtain ⟨y12, u13, h1, h⟩ := ob2_some h
        obtain ⟨hkd, h1⟩ := kd_some h1
        refine v_goi (rn_V C gcX0_93 (RX0, TX0, 11) rfl rfl (by decide) hkd (mX0_reachesTarget h1) ⟨rfl, rfl⟩ rfl ⟨Nat.le_of_ble_eq_true rfl, Nat.le_of_ble_eq_true rfl⟩ (rest := []) rfl (Nat.le_of_ble_eq_true rfl) ⟨Nat.le_of_ble_eq_true rfl, Nat.le_of_ble_eq_true rfl⟩ dX0_openWay_83) ?_
        refine v_ifeq C 101 dX0_openWay_86 (by decide) h (fun _ h => ?_) (fun _ h => ?_)
        · refine v_iinc C 3 (x3 + (1 : Int32)) [(3, .int (x3 + (1 : Int32))), (4, .int y11), (0, .ref (bs + a0)), (1, .long x1)] dX0_openWay_101 rfl rfl (by decide) rfl ?_
          refine v_goto C 50 dX0_openWay_104 (by decide) ?_
          refine v_sub [(0, .ref (bs + a0)), (1, .long x1), (3, .int (x3 + (1 : Int32)))] [2, 3, 0] rfl ?_
          exact hk (x3 + (1 : Int32)) u13 _ h g
        · refine v_aload_n C 1 dX0_openWay_89 rfl rfl ?_
          refine v_getR C fdX0_25 dX0_openWay_90 h (fun b14 h => ?_)
          refine v_iload_n C 3 dX0_openWay_93 rfl rfl ?_
          refine v_ldJ C dX0_openWay_94 h (fun y15 h => ?_)
          refine v_lconst C (1 : Int64) dX0_openWay_95 (by decide) ?_
          refine v_iload C 0 dX0_openWay_96 rfl ?_
          refine v_lshl C dX0_openWay_98 ?_
          refine v_lor C dX0_openWay_99 ?_
          have h := hret (y15 ||| (jlsl (1 : Int64) y11), u13) ((Option.some.inj h).symm ▸ g)
          exact v_lret C dX0_openWay_100 (Prod.mk.inj h).2 (Prod.mk.inj h).1
set_option maxRecDepth 100000 in
set_option maxHeartbeats 4000000 in
theorem mX0_openWay {l : Launch} {D : UD} {bs : Nat} {a0 : Nat} {x1 : Int64} {u0 : UH} {r : Int64} {v : UH} (h : fX0_openWay a0 x1 u0 = some (r, v)) : Met l yX0_openWay (wz yX0_openWay cX0_openWay 5 (some .long)) rmX0_openWay (va_Pc [.ref (bs + a0), .long x1] (uIn D bs u0)) (uQl D bs u0 v r) 0 0 (uA bs u0) := by
  refine uMet (by decide) (Nat.le_of_ble_eq_true rfl) ?_
  intro X tw hX C hin
  have C : uCx X D bs tw cX0_openWay 5 RX0 (some .long) := C
  have hin : X.2.2.2.2.2.2.2.1.name = "openWay" := hin
  refine v_L [(0, .ref (bs + a0)), (1, .long x1)] rfl ?_
  unfold fX0_openWay at h
  refine v_aload_n C 0 dX0_openWay_0 rfl rfl ?_
  refine v_getR C fdX0_28 dX0_openWay_1 h (fun b1 h => ?_)
  refine v_lconst C (0 : Int64) dX0_openWay_4 (by decide) ?_
  obtain ⟨u2, h1, h⟩ := ob_some h
  refine v_gov (rn_S C gcX0_73 (mJ7_fill_d0a16 h1) ⟨rfl, rfl⟩ rfl ⟨Nat.le_of_ble_eq_true rfl, Nat.le_of_ble_eq_true rfl⟩ (rest := []) rfl (Nat.le_of_ble_eq_true rfl) ⟨Nat.le_of_ble_eq_true rfl, Nat.le_of_ble_eq_true rfl⟩ dX0_openWay_5) ?_
  refine v_aload_n C 0 dX0_openWay_8 rfl rfl ?_
  refine v_iconst C (0 : Int32) dX0_openWay_9 (by decide) ?_
  refine v_putI C fdX0_79 (fun h => by cases h) dX0_openWay_10 h (fun u3 h => ?_)
  refine v_iconst C (0 : Int32) dX0_openWay_13 (by decide) ?_
  refine v_istore_n C [(3, .int (0 : Int32)), (0, .ref (bs + a0)), (1, .long x1)] dX0_openWay_14 rfl (by decide) rfl ?_
  refine v_sub [(0, .ref (bs + a0)), (1, .long x1), (3, .int (0 : Int32))] [1, 2, 0] rfl ?_
  refine it2_O (V := fun x3 u' => VV X D bs u0 rmX0_openWay 5 0 0 (MQ X.2.2.2.2.2.2.1 (uQl D bs u0 v r) X.2.2.2.2.2.1 X.2.2.2.1 0 0 (uA bs u0)) u' 15 [(0, .ref (bs + a0)), (1, .long x1), (3, .int x3)] []) h (fun k_ hk_ => wX0_openWay_B15 C hin hk_ ?_ )
  intro z9 h
  try dsimp only [Sum.elim_inl] at h
  refine v_iconst C (0 : Int32) dX0_openWay_48 (by decide) ?_
  refine v_istore_n C [(3, .int (0 : Int32)), (0, .ref (bs + a0)), (1, .long x1)] dX0_openWay_49 rfl (by decide) rfl ?_
  refine v_sub [(0, .ref (bs + a0)), (1, .long x1), (3, .int (0 : Int32))] [1, 2, 0] rfl ?_
  refine it2_S (V := fun x3 u' => VV X D bs u0 rmX0_openWay 5 0 0 (MQ X.2.2.2.2.2.2.1 (uQl D bs u0 v r) X.2.2.2.2.2.1 X.2.2.2.1 0 0 (uA bs u0)) u' 50 [(0, .ref (bs + a0)), (1, .long x1), (3, .int x3)] []) h (fun k_ hk_ => wX0_openWay_B50 C hin hk_ ?_ (fun x hx => Option.some.inj (show some x = some _ from hx)))
  intro z11 h
  try dsimp only [Sum.elim_inl] at h
  refine v_lconst C (0 : Int64) dX0_openWay_107 (by decide) ?_
  exact v_lret C dX0_openWay_108 (Prod.mk.inj (Option.some.inj h)).2 (Prod.mk.inj (Option.some.inj h)).1
set_option maxRecDepth 100000 in
set_option maxHeartbeats 4000000 in
theorem mX0_isOn {l : Launch} {D : UD} {bs : Nat} {x0 : Int64} {x2 : Int32} {u0 : UH} {r : Int32} (h : fX0_isOn x0 x2 u0 = some r) : Met l yX0_isOn (wz yX0_isOn cX0_isOn 3 (some .boolean)) rmX0_isOn (va_Pc [.long x0, .int x2] (uIn D bs u0)) (uQi D bs u0 u0 r) 0 0 (uA bs u0) := by
  refine uMet (by decide) (Nat.le_of_ble_eq_true rfl) ?_
  intro X tw hX C hin
  have C : uCx X D bs tw cX0_isOn 3 RX0 (some .boolean) := C
  have hin : X.2.2.2.2.2.2.2.1.name = "isOn" := hin
  refine v_L [(0, .long x0), (2, .int x2)] rfl ?_
  unfold fX0_isOn at h
  refine v_lload_n C 0 dX0_isOn_0 rfl rfl ?_
  refine v_iload_n C 1 dX0_isOn_1 rfl rfl ?_
  refine v_lushr C dX0_isOn_2 ?_
  refine v_lconst C (1 : Int64) dX0_isOn_3 (by decide) ?_
  refine v_land C dX0_isOn_4 ?_
  refine v_lconst C (0 : Int64) dX0_isOn_5 (by decide) ?_
  refine v_lcmpeq C 14 dX0_isOn_6 dX0_isOn_7 (by decide) h (fun _ h => ?_) (fun _ h => ?_)
  · refine v_iconst C (0 : Int32) dX0_isOn_14 (by decide) ?_
    exact v_zret C dX0_isOn_15 rfl (Option.some.inj h) rfl
  · refine v_iconst C (1 : Int32) dX0_isOn_10 (by decide) ?_
    refine v_goto C 15 dX0_isOn_11 (by decide) ?_
    exact v_zret C dX0_isOn_15 rfl (Option.some.inj h) rfl
set_option maxRecDepth 100000 in
set_option maxHeartbeats 4000000 in
theorem wX0_cutByOne_32 {X : UX} {D : UD} {bs tw : Nat} {u0 : UH} {r : Int32} {v : UH} (C : uCx X D bs tw cX0_cutByOne 4 RX0 (some .boolean)) (hin : X.2.2.2.2.2.2.2.1.name = "cutByOne") {a0 : Nat} {x1 : Int64}  {G : (UH ⊕ (Int32 × UH)) → Prop} {k : Int32 → UH → Option (UH ⊕ (Int32 × UH))} (hk : ∀ (x3 : Int32) (u' : UH) e, k x3 u' = some e → G e → VV X D bs u0 rmX0_cutByOne 4 0 0 (MQ X.2.2.2.2.2.2.1 (uQi D bs u0 v r) X.2.2.2.2.2.1 X.2.2.2.1 0 0 (uA bs u0)) u' 2 [(0, .ref (bs + a0)), (1, .long x1), (3, .int x3)] []) (hex : ∀  (u' : UH), G (Sum.inl u') → VV X D bs u0 rmX0_cutByOne 4 0 0 (MQ X.2.2.2.2.2.2.1 (uQi D bs u0 v r) X.2.2.2.2.2.1 X.2.2.2.1 0 0 (uA bs u0)) u' 59 [] []) (hret : ∀ x, G (Sum.inr x) → x = (r, v)) {x3 : Int32} {s0 : Int64} {s1 : Int32} {s2 : Nat} {u : UH} {e : (UH ⊕ (Int32 × UH))} (h : fX0_cutByOne_32 k a0 x1 x3 s0 s1 s2 u = some e) (g : G e) : VV X D bs u0 rmX0_cutByOne 4 0 0 (MQ X.2.2.2.2.2.2.1 (uQi D bs u0 v r) X.2.2.2.2.2.1 X.2.2.2.1 0 0 (uA bs u0)) u 32 [(0, .ref (bs + a0)), (1, .long x1), (3, .int x3)] [.long s0, .int s1, .ref (bs + s2)] := by
  unfold fX0_cutByOne_32 at h
  refine v_stJ C dX0_cutByOne_32 h (fun u3 h => ?_)
  refine v_aload_n C 0 dX0_cutByOne_33 rfl rfl ?_
  refine v_getR C fdX0_15 dX0_cutByOne_34 h (fun b4 h => ?_)
  refine v_iload_n C 2 dX0_cutByOne_37 rfl rfl ?_
  refine v_ldJ C dX0_cutByOne_38 h (fun y5 h => ?_)
  refine v_lconst C (0 : Int64) dX0_cutByOne_39 (by decide) ?_
  refine v_lcmpne C 53 dX0_cutByOne_40 dX0_cutByOne_41 (by decide) h (fun _ h => ?_) (fun _ h => ?_)
  · refine v_iinc C 2 (x3 + (1 : Int32)) [(3, .int (x3 + (1 : Int32))), (0, .ref (bs + a0)), (1, .long x1)] dX0_cutByOne_53 rfl rfl (by decide) rfl ?_
    refine v_goto C 2 dX0_cutByOne_56 (by decide) ?_
    refine v_sub [(0, .ref (bs + a0)), (1, .long x1), (3, .int (x3 + (1 : Int32)))] [1, 2, 0] rfl ?_
    exact hk (x3 + (1 : Int32)) u3 _ h g
  · refine v_aload_n C 0 dX0_cutByOne_44 rfl rfl ?_
    refine v_getR C fdX0_9 dX0_cutByOne_45 h (fun b6 h => ?_)
    refine v_iconst C (0 : Int32) dX0_cutByOne_48 (by decide) ?_
    refine v_iload_n C 2 dX0_cutByOne_49 rfl rfl ?_
    refine v_stI C dX0_cutByOne_50 h (fun u7 h => ?_)
    refine v_iconst C (1 : Int32) dX0_cutByOne_51 (by decide) ?_
    have h := hret ((1 : Int32), u7) ((Option.some.inj h).symm ▸ g)
    exact v_zret C dX0_cutByOne_52 (Prod.mk.inj h).2 (Prod.mk.inj h).1 rfl
set_option maxRecDepth 100000 in
set_option maxHeartbeats 4000000 in
theorem wX0_cutByOne_B2 {X : UX} {D : UD} {bs tw : Nat} {u0 : UH} {r : Int32} {v : UH} (C : uCx X D bs tw cX0_cutByOne 4 RX0 (some .boolean)) (hin : X.2.2.2.2.2.2.2.1.name = "cutByOne") {a0 : Nat} {x1 : Int64}  {G : (UH ⊕ (Int32 × UH)) → Prop} {k : Int32 → UH → Option (UH ⊕ (Int32 × UH))} (hk : ∀ (x3 : Int32) (u' : UH) e, k x3 u' = some e → G e → VV X D bs u0 rmX0_cutByOne 4 0 0 (MQ X.2.2.2.2.2.2.1 (uQi D bs u0 v r) X.2.2.2.2.2.1 X.2.2.2.1 0 0 (uA bs u0)) u' 2 [(0, .ref (bs + a0)), (1, .long x1), (3, .int x3)] []) (hex : ∀  (u' : UH), G (Sum.inl u') → VV X D bs u0 rmX0_cutByOne 4 0 0 (MQ X.2.2.2.2.2.2.1 (uQi D bs u0 v r) X.2.2.2.2.2.1 X.2.2.2.1 0 0 (uA bs u0)) u' 59 [] []) (hret : ∀ x, G (Sum.inr x) → x = (r, v)) : ∀ (x3 : Int32) (u : UH) e, fX0_cutByOne_B2 a0 x1  k x3 u = some e → G e → VV X D bs u0 rmX0_cutByOne 4 0 0 (MQ X.2.2.2.2.2.2.1 (uQi D bs u0 v r) X.2.2.2.2.2.1 X.2.2.2.1 0 0 (uA bs u0)) u 2 [(0, .ref (bs + a0)), (1, .long x1), (3, .int x3)] [] := by
  intro x3 u e h g
  unfold fX0_cutByOne_B2 at h
  refine v_iload_n C 2 dX0_cutByOne_2 rfl rfl ?_
  refine v_bipush C (36 : Int32) dX0_cutByOne_3 (by decide) ?_
  refine v_icmpge C 59 dX0_cutByOne_5 (by decide) h (fun _ h => ?_) (fun _ h => ?_)
  · refine v_sub [] [] rfl ?_
    exact hex u ((Option.some.inj h).symm ▸ g)
  · refine v_aload_n C 0 dX0_cutByOne_8 rfl rfl ?_
    refine v_getR C fdX0_15 dX0_cutByOne_9 h (fun b1 h => ?_)
    refine v_iload_n C 2 dX0_cutByOne_12 rfl rfl ?_
    refine v_lload_n C 1 dX0_cutByOne_13 rfl rfl ?_
    refine v_iload_n C 2 dX0_cutByOne_14 rfl rfl ?_
    obtain ⟨y2, h1, h⟩ := ob_some h
    refine v_goi (rn_S C gcX0_61 (mX0_isOn h1) ⟨rfl, rfl⟩ rfl ⟨Nat.le_of_ble_eq_true rfl, Nat.le_of_ble_eq_true rfl⟩ (rest := [.int x3, .ref (bs + b1)]) rfl (Nat.le_of_ble_eq_true rfl) ⟨Nat.le_of_ble_eq_true rfl, Nat.le_of_ble_eq_true rfl⟩ dX0_cutByOne_15) ?_
    refine v_ifeq C 31 dX0_cutByOne_18 (by decide) h (fun _ h => ?_) (fun _ h => ?_)
    · refine v_lload_n C 1 dX0_cutByOne_31 rfl rfl ?_
      refine v_sub [(0, .ref (bs + a0)), (1, .long x1), (3, .int x3)] [0, 1, 2] rfl ?_
      exact wX0_cutByOne_32 C hin hk hex hret h g
    · refine v_aload_n C 0 dX0_cutByOne_21 rfl rfl ?_
      refine v_lconst C (1 : Int64) dX0_cutByOne_22 (by decide) ?_
      refine v_iload_n C 2 dX0_cutByOne_23 rfl rfl ?_
      refine v_lshl C dX0_cutByOne_24 ?_
      obtain ⟨y8, u9, h1, h⟩ := ob2_some h
      obtain ⟨hkd, h1⟩ := kd_some h1
      refine v_gol (rn_V C gcX0_46 (RX0, TX0, 11) rfl rfl (by decide) hkd (mX0_openWay h1) ⟨rfl, rfl⟩ rfl ⟨Nat.le_of_ble_eq_true rfl, Nat.le_of_ble_eq_true rfl⟩ (rest := [.int x3, .ref (bs + b1)]) rfl (Nat.le_of_ble_eq_true rfl) ⟨Nat.le_of_ble_eq_true rfl, Nat.le_of_ble_eq_true rfl⟩ dX0_cutByOne_25) ?_
      refine v_goto C 32 dX0_cutByOne_28 (by decide) ?_
      refine v_sub [(0, .ref (bs + a0)), (1, .long x1), (3, .int x3)] [0, 1, 2] rfl ?_
      exact wX0_cutByOne_32 C hin hk hex hret h g
set_option maxRecDepth 100000 in
set_option maxHeartbeats 4000000 in
theorem mX0_cutByOne {l : Launch} {D : UD} {bs : Nat} {a0 : Nat} {x1 : Int64} {u0 : UH} {r : Int32} {v : UH} (h : fX0_cutByOne a0 x1 u0 = some (r, v)) : Met l yX0_cutByOne (wz yX0_cutByOne cX0_cutByOne 4 (some .boolean)) rmX0_cutByOne (va_Pc [.ref (bs + a0), .long x1] (uIn D bs u0)) (uQi D bs u0 v r) 0 0 (uA bs u0) := by
  refine uMet (by decide) (Nat.le_of_ble_eq_true rfl) ?_
  intro X tw hX C hin
  have C : uCx X D bs tw cX0_cutByOne 4 RX0 (some .boolean) := C
  have hin : X.2.2.2.2.2.2.2.1.name = "cutByOne" := hin
  refine v_L [(0, .ref (bs + a0)), (1, .long x1)] rfl ?_
  unfold fX0_cutByOne at h
  refine v_iconst C (0 : Int32) dX0_cutByOne_0 (by decide) ?_
  refine v_istore_n C [(3, .int (0 : Int32)), (0, .ref (bs + a0)), (1, .long x1)] dX0_cutByOne_1 rfl (by decide) rfl ?_
  refine v_sub [(0, .ref (bs + a0)), (1, .long x1), (3, .int (0 : Int32))] [1, 2, 0] rfl ?_
  refine it2_S (V := fun x3 u' => VV X D bs u0 rmX0_cutByOne 4 0 0 (MQ X.2.2.2.2.2.2.1 (uQi D bs u0 v r) X.2.2.2.2.2.1 X.2.2.2.1 0 0 (uA bs u0)) u' 2 [(0, .ref (bs + a0)), (1, .long x1), (3, .int x3)] []) h (fun k_ hk_ => wX0_cutByOne_B2 C hin hk_ ?_ (fun x hx => Option.some.inj (show some x = some _ from hx)))
  intro z11 h
  try dsimp only [Sum.elim_inl] at h
  refine v_iconst C (0 : Int32) dX0_cutByOne_59 (by decide) ?_
  exact v_zret C dX0_cutByOne_60 (Prod.mk.inj (Option.some.inj h)).2 (Prod.mk.inj (Option.some.inj h)).1 rfl
set_option maxRecDepth 100000 in
set_option maxHeartbeats 4000000 in
theorem mX0_knownWay {l : Launch} {D : UD} {bs : Nat} {a0 : Nat} {x1 : Int32} {x2 : Int32} {u0 : UH} {r : Int64} (h : fX0_knownWay a0 x1 x2 u0 = some r) : Met l yX0_knownWay (wz yX0_knownWay cX0_knownWay 3 (some .long)) rmX0_knownWay (va_Pc [.ref (bs + a0), .int x1, .int x2] (uIn D bs u0)) (uQl D bs u0 u0 r) 0 0 (uA bs u0) := by
  refine uMet (by decide) (Nat.le_of_ble_eq_true rfl) ?_
  intro X tw hX C hin
  have C : uCx X D bs tw cX0_knownWay 3 RX0 (some .long) := C
  have hin : X.2.2.2.2.2.2.2.1.name = "knownWay" := hin
  refine v_L [(0, .ref (bs + a0)), (1, .int x1), (2, .int x2)] rfl ?_
  unfold fX0_knownWay at h
  refine v_aload_n C 0 dX0_knownWay_0 rfl rfl ?_
  refine v_getR C fdX0_15 dX0_knownWay_1 h (fun b1 h => ?_)
  refine v_iload_n C 1 dX0_knownWay_4 rfl rfl ?_
  refine v_ldJ C dX0_knownWay_5 h (fun y2 h => ?_)
  refine v_iload_n C 2 dX0_knownWay_6 rfl rfl ?_
  obtain ⟨y3, h1, h⟩ := ob_some h
  refine v_goi (rn_S C gcX0_61 (mX0_isOn h1) ⟨rfl, rfl⟩ rfl ⟨Nat.le_of_ble_eq_true rfl, Nat.le_of_ble_eq_true rfl⟩ (rest := []) rfl (Nat.le_of_ble_eq_true rfl) ⟨Nat.le_of_ble_eq_true rfl, Nat.le_of_ble_eq_true rfl⟩ dX0_knownWay_7) ?_
  refine v_ifne C 20 dX0_knownWay_10 (by decide) h (fun _ h => ?_) (fun _ h => ?_)
  · refine v_aload_n C 0 dX0_knownWay_20 rfl rfl ?_
    refine v_getR C fdX0_15 dX0_knownWay_21 h (fun b4 h => ?_)
    refine v_iload_n C 2 dX0_knownWay_24 rfl rfl ?_
    refine v_ldJ C dX0_knownWay_25 h (fun y5 h => ?_)
    refine v_iload_n C 1 dX0_knownWay_26 rfl rfl ?_
    obtain ⟨y6, h1, h⟩ := ob_some h
    refine v_goi (rn_S C gcX0_61 (mX0_isOn h1) ⟨rfl, rfl⟩ rfl ⟨Nat.le_of_ble_eq_true rfl, Nat.le_of_ble_eq_true rfl⟩ (rest := []) rfl (Nat.le_of_ble_eq_true rfl) ⟨Nat.le_of_ble_eq_true rfl, Nat.le_of_ble_eq_true rfl⟩ dX0_knownWay_27) ?_
    refine v_ifeq C 37 dX0_knownWay_30 (by decide) h (fun _ h => ?_) (fun _ h => ?_)
    · refine v_aload_n C 0 dX0_knownWay_37 rfl rfl ?_
      refine v_getR C fdX0_15 dX0_knownWay_38 h (fun b7 h => ?_)
      refine v_iload_n C 2 dX0_knownWay_41 rfl rfl ?_
      refine v_ldJ C dX0_knownWay_42 h (fun y8 h => ?_)
      exact v_lret C dX0_knownWay_43 rfl (Option.some.inj h)
    · refine v_lconst C (0 : Int64) dX0_knownWay_33 (by decide) ?_
      refine v_goto C 43 dX0_knownWay_34 (by decide) ?_
      exact v_lret C dX0_knownWay_43 rfl (Option.some.inj h)
  · refine v_aload_n C 0 dX0_knownWay_13 rfl rfl ?_
    refine v_getR C fdX0_15 dX0_knownWay_14 h (fun b9 h => ?_)
    refine v_iload_n C 1 dX0_knownWay_17 rfl rfl ?_
    refine v_ldJ C dX0_knownWay_18 h (fun y10 h => ?_)
    exact v_lret C dX0_knownWay_19 rfl (Option.some.inj h)
set_option maxRecDepth 100000 in
set_option maxHeartbeats 4000000 in
theorem wX0_cutByTwo_43 {X : UX} {D : UD} {bs tw : Nat} {u0 : UH} {r : Int32} {v : UH} (C : uCx X D bs tw cX0_cutByTwo 5 RX0 (some .boolean)) (hin : X.2.2.2.2.2.2.2.1.name = "cutByTwo") {a0 : Nat} {x1 : Int32}  {G : (UH ⊕ (Int32 × UH)) → Prop} {k : Int32 → UH → Option (UH ⊕ (Int32 × UH))} (hk : ∀ (x2 : Int32) (u' : UH) e, k x2 u' = some e → G e → VV X D bs u0 rmX0_cutByTwo 5 0 0 (MQ X.2.2.2.2.2.2.1 (uQi D bs u0 v r) X.2.2.2.2.2.1 X.2.2.2.1 0 0 (uA bs u0)) u' 12 [(0, .ref (bs + a0)), (1, .int x1), (2, .int x2)] []) (hex : ∀  (u' : UH), G (Sum.inl u') → VV X D bs u0 rmX0_cutByTwo 5 0 0 (MQ X.2.2.2.2.2.2.1 (uQi D bs u0 v r) X.2.2.2.2.2.1 X.2.2.2.1 0 0 (uA bs u0)) u' 83 [(0, .ref (bs + a0)), (1, .int x1)] []) (hret : ∀ x, G (Sum.inr x) → x = (r, v)) {x2 : Int32} {x3 : Int64} {u : UH} {e : (UH ⊕ (Int32 × UH))} (h : fX0_cutByTwo_43 k a0 x1 x2 x3 u = some e) (g : G e) : VV X D bs u0 rmX0_cutByTwo 5 0 0 (MQ X.2.2.2.2.2.2.1 (uQi D bs u0 v r) X.2.2.2.2.2.1 X.2.2.2.1 0 0 (uA bs u0)) u 43 [(0, .ref (bs + a0)), (1, .int x1), (2, .int x2), (3, .long x3)] [] := by
  unfold fX0_cutByTwo_43 at h
  refine v_lload_n C 3 dX0_cutByTwo_43 rfl rfl ?_
  refine v_lconst C (0 : Int64) dX0_cutByTwo_44 (by decide) ?_
  refine v_lcmpne C 65 dX0_cutByTwo_45 dX0_cutByTwo_46 (by decide) h (fun _ h => ?_) (fun _ h => ?_)
  · refine v_aload_n C 0 dX0_cutByTwo_65 rfl rfl ?_
    refine v_getR C fdX0_19 dX0_cutByTwo_66 h (fun b3 h => ?_)
    refine v_iload_n C 1 dX0_cutByTwo_69 rfl rfl ?_
    refine v_bipush C (36 : Int32) dX0_cutByTwo_70 (by decide) ?_
    refine v_imul C dX0_cutByTwo_72 ?_
    refine v_iload_n C 2 dX0_cutByTwo_73 rfl rfl ?_
    refine v_iadd C dX0_cutByTwo_74 ?_
    refine v_lload_n C 3 dX0_cutByTwo_75 rfl rfl ?_
    refine v_stJ C dX0_cutByTwo_76 h (fun u4 h => ?_)
    refine v_iinc C 2 (x2 + (1 : Int32)) [(2, .int (x2 + (1 : Int32))), (0, .ref (bs + a0)), (1, .int x1), (3, .long x3)] dX0_cutByTwo_77 rfl rfl (by decide) rfl ?_
    refine v_goto C 12 dX0_cutByTwo_80 (by decide) ?_
    refine v_sub [(0, .ref (bs + a0)), (1, .int x1), (2, .int (x2 + (1 : Int32)))] [1, 2, 0] rfl ?_
    exact hk (x2 + (1 : Int32)) u4 _ h g
  · refine v_aload_n C 0 dX0_cutByTwo_49 rfl rfl ?_
    refine v_getR C fdX0_9 dX0_cutByTwo_50 h (fun b5 h => ?_)
    refine v_iconst C (0 : Int32) dX0_cutByTwo_53 (by decide) ?_
    refine v_iload_n C 1 dX0_cutByTwo_54 rfl rfl ?_
    refine v_stI C dX0_cutByTwo_55 h (fun u6 h => ?_)
    refine v_aload_n C 0 dX0_cutByTwo_56 rfl rfl ?_
    refine v_getR C fdX0_9 dX0_cutByTwo_57 h (fun b7 h => ?_)
    refine v_iconst C (1 : Int32) dX0_cutByTwo_60 (by decide) ?_
    refine v_iload_n C 2 dX0_cutByTwo_61 rfl rfl ?_
    refine v_stI C dX0_cutByTwo_62 h (fun u8 h => ?_)
    refine v_iconst C (1 : Int32) dX0_cutByTwo_63 (by decide) ?_
    have h := hret ((1 : Int32), u8) ((Option.some.inj h).symm ▸ g)
    exact v_zret C dX0_cutByTwo_64 (Prod.mk.inj h).2 (Prod.mk.inj h).1 rfl
set_option maxRecDepth 100000 in
set_option maxHeartbeats 4000000 in
theorem wX0_cutByTwo_B12 {X : UX} {D : UD} {bs tw : Nat} {u0 : UH} {r : Int32} {v : UH} (C : uCx X D bs tw cX0_cutByTwo 5 RX0 (some .boolean)) (hin : X.2.2.2.2.2.2.2.1.name = "cutByTwo") {a0 : Nat} {x1 : Int32}  {G : (UH ⊕ (Int32 × UH)) → Prop} {k : Int32 → UH → Option (UH ⊕ (Int32 × UH))} (hk : ∀ (x2 : Int32) (u' : UH) e, k x2 u' = some e → G e → VV X D bs u0 rmX0_cutByTwo 5 0 0 (MQ X.2.2.2.2.2.2.1 (uQi D bs u0 v r) X.2.2.2.2.2.1 X.2.2.2.1 0 0 (uA bs u0)) u' 12 [(0, .ref (bs + a0)), (1, .int x1), (2, .int x2)] []) (hex : ∀  (u' : UH), G (Sum.inl u') → VV X D bs u0 rmX0_cutByTwo 5 0 0 (MQ X.2.2.2.2.2.2.1 (uQi D bs u0 v r) X.2.2.2.2.2.1 X.2.2.2.1 0 0 (uA bs u0)) u' 83 [(0, .ref (bs + a0)), (1, .int x1)] []) (hret : ∀ x, G (Sum.inr x) → x = (r, v)) : ∀ (x2 : Int32) (u : UH) e, fX0_cutByTwo_B12 a0 x1  k x2 u = some e → G e → VV X D bs u0 rmX0_cutByTwo 5 0 0 (MQ X.2.2.2.2.2.2.1 (uQi D bs u0 v r) X.2.2.2.2.2.1 X.2.2.2.1 0 0 (uA bs u0)) u 12 [(0, .ref (bs + a0)), (1, .int x1), (2, .int x2)] [] := by
  intro x2 u e h g
  unfold fX0_cutByTwo_B12 at h
  refine v_iload_n C 2 dX0_cutByTwo_12 rfl rfl ?_
  refine v_bipush C (36 : Int32) dX0_cutByTwo_13 (by decide) ?_
  refine v_icmpge C 83 dX0_cutByTwo_15 (by decide) h (fun _ h => ?_) (fun _ h => ?_)
  · refine v_sub [(0, .ref (bs + a0)), (1, .int x1)] [0, 1] rfl ?_
    exact hex u ((Option.some.inj h).symm ▸ g)
  · refine v_aload_n C 0 dX0_cutByTwo_18 rfl rfl ?_
    refine v_iload_n C 1 dX0_cutByTwo_19 rfl rfl ?_
    refine v_iload_n C 2 dX0_cutByTwo_20 rfl rfl ?_
    obtain ⟨y2, h1, h⟩ := ob_some h
    obtain ⟨hkd, h1⟩ := kd_some h1
    refine v_gol (rn_V C gcX0_65 (RX0, TX0, 11) rfl rfl (by decide) hkd (mX0_knownWay h1) ⟨rfl, rfl⟩ rfl ⟨Nat.le_of_ble_eq_true rfl, Nat.le_of_ble_eq_true rfl⟩ (rest := []) rfl (Nat.le_of_ble_eq_true rfl) ⟨Nat.le_of_ble_eq_true rfl, Nat.le_of_ble_eq_true rfl⟩ dX0_cutByTwo_21) ?_
    refine v_lstore_n C [(3, .long y2), (0, .ref (bs + a0)), (1, .int x1), (2, .int x2)] dX0_cutByTwo_24 rfl (by decide) rfl ?_
    refine v_lload_n C 0 dX0_cutByTwo_25 rfl rfl ?_
    refine v_lconst C (0 : Int64) dX0_cutByTwo_26 (by decide) ?_
    refine v_lcmpne C 43 dX0_cutByTwo_27 dX0_cutByTwo_28 (by decide) h (fun _ h => ?_) (fun _ h => ?_)
    · refine v_sub [(0, .ref (bs + a0)), (1, .int x1), (2, .int x2), (3, .long y2)] [1, 2, 3, 0] rfl ?_
      exact wX0_cutByTwo_43 C hin hk hex hret h g
    · refine v_aload_n C 1 dX0_cutByTwo_31 rfl rfl ?_
      refine v_lconst C (1 : Int64) dX0_cutByTwo_32 (by decide) ?_
      refine v_iload_n C 2 dX0_cutByTwo_33 rfl rfl ?_
      refine v_lshl C dX0_cutByTwo_34 ?_
      refine v_lconst C (1 : Int64) dX0_cutByTwo_35 (by decide) ?_
      refine v_iload_n C 3 dX0_cutByTwo_36 rfl rfl ?_
      refine v_lshl C dX0_cutByTwo_37 ?_
      refine v_lor C dX0_cutByTwo_38 ?_
      obtain ⟨y9, u10, h1, h⟩ := ob2_some h
      obtain ⟨hkd, h1⟩ := kd_some h1
      refine v_gol (rn_V C gcX0_46 (RX0, TX0, 11) rfl rfl (by decide) hkd (mX0_openWay h1) ⟨rfl, rfl⟩ rfl ⟨Nat.le_of_ble_eq_true rfl, Nat.le_of_ble_eq_true rfl⟩ (rest := []) rfl (Nat.le_of_ble_eq_true rfl) ⟨Nat.le_of_ble_eq_true rfl, Nat.le_of_ble_eq_true rfl⟩ dX0_cutByTwo_39) ?_
      refine v_lstore_n C [(3, .long y9), (0, .ref (bs + a0)), (1, .int x1), (2, .int x2)] dX0_cutByTwo_42 rfl (by decide) rfl ?_
      refine v_sub [(0, .ref (bs + a0)), (1, .int x1), (2, .int x2), (3, .long y9)] [1, 2, 3, 0] rfl ?_
      exact wX0_cutByTwo_43 C hin hk hex hret h g
set_option maxRecDepth 100000 in
set_option maxHeartbeats 4000000 in
theorem wX0_cutByTwo_B2 {X : UX} {D : UD} {bs tw : Nat} {u0 : UH} {r : Int32} {v : UH} (C : uCx X D bs tw cX0_cutByTwo 5 RX0 (some .boolean)) (hin : X.2.2.2.2.2.2.2.1.name = "cutByTwo") {a0 : Nat}  {G : (UH ⊕ (Int32 × UH)) → Prop} {k : Int32 → UH → Option (UH ⊕ (Int32 × UH))} (hk : ∀ (x1 : Int32) (u' : UH) e, k x1 u' = some e → G e → VV X D bs u0 rmX0_cutByTwo 5 0 0 (MQ X.2.2.2.2.2.2.1 (uQi D bs u0 v r) X.2.2.2.2.2.1 X.2.2.2.1 0 0 (uA bs u0)) u' 2 [(0, .ref (bs + a0)), (1, .int x1)] []) (hex : ∀  (u' : UH), G (Sum.inl u') → VV X D bs u0 rmX0_cutByTwo 5 0 0 (MQ X.2.2.2.2.2.2.1 (uQi D bs u0 v r) X.2.2.2.2.2.1 X.2.2.2.1 0 0 (uA bs u0)) u' 89 [] []) (hret : ∀ x, G (Sum.inr x) → x = (r, v)) : ∀ (x1 : Int32) (u : UH) e, fX0_cutByTwo_B2 a0  k x1 u = some e → G e → VV X D bs u0 rmX0_cutByTwo 5 0 0 (MQ X.2.2.2.2.2.2.1 (uQi D bs u0 v r) X.2.2.2.2.2.1 X.2.2.2.1 0 0 (uA bs u0)) u 2 [(0, .ref (bs + a0)), (1, .int x1)] [] := by
  intro x1 u e h g
  unfold fX0_cutByTwo_B2 at h
  refine v_iload_n C 1 dX0_cutByTwo_2 rfl rfl ?_
  refine v_bipush C (36 : Int32) dX0_cutByTwo_3 (by decide) ?_
  refine v_icmpge C 89 dX0_cutByTwo_5 (by decide) h (fun _ h => ?_) (fun _ h => ?_)
  · refine v_sub [] [] rfl ?_
    exact hex u ((Option.some.inj h).symm ▸ g)
  · refine v_iload_n C 1 dX0_cutByTwo_8 rfl rfl ?_
    refine v_iconst C (1 : Int32) dX0_cutByTwo_9 (by decide) ?_
    refine v_iadd C dX0_cutByTwo_10 ?_
    refine v_lti h (fun y1 h => ?_)
    refine v_istore_n C [(2, .int y1), (0, .ref (bs + a0)), (1, .int x1)] dX0_cutByTwo_11 rfl (by decide) rfl ?_
    refine v_sub [(0, .ref (bs + a0)), (1, .int x1), (2, .int y1)] [1, 2, 0] rfl ?_
    refine it2_S (V := fun x2 u' => VV X D bs u0 rmX0_cutByTwo 5 0 0 (MQ X.2.2.2.2.2.2.1 (uQi D bs u0 v r) X.2.2.2.2.2.1 X.2.2.2.1 0 0 (uA bs u0)) u' 12 [(0, .ref (bs + a0)), (1, .int x1), (2, .int x2)] []) h (fun k_ hk_ => wX0_cutByTwo_B12 C hin hk_ ?_ (fun x hx => hret x ((Option.some.inj (show some (Sum.inr x) = some _ from hx)).symm ▸ g)))
    intro z12 h
    try dsimp only [Sum.elim_inl] at h
    refine v_iinc C 1 (x1 + (1 : Int32)) [(1, .int (x1 + (1 : Int32))), (0, .ref (bs + a0))] dX0_cutByTwo_83 rfl rfl (by decide) rfl ?_
    refine v_goto C 2 dX0_cutByTwo_86 (by decide) ?_
    refine v_sub [(0, .ref (bs + a0)), (1, .int (x1 + (1 : Int32)))] [1, 0] rfl ?_
    exact hk (x1 + (1 : Int32)) z12 _ h g
set_option maxRecDepth 100000 in
set_option maxHeartbeats 4000000 in
theorem mX0_cutByTwo {l : Launch} {D : UD} {bs : Nat} {a0 : Nat} {u0 : UH} {r : Int32} {v : UH} (h : fX0_cutByTwo a0 u0 = some (r, v)) : Met l yX0_cutByTwo (wz yX0_cutByTwo cX0_cutByTwo 5 (some .boolean)) rmX0_cutByTwo (va_Pc [.ref (bs + a0)] (uIn D bs u0)) (uQi D bs u0 v r) 0 0 (uA bs u0) := by
  refine uMet (by decide) (Nat.le_of_ble_eq_true rfl) ?_
  intro X tw hX C hin
  have C : uCx X D bs tw cX0_cutByTwo 5 RX0 (some .boolean) := C
  have hin : X.2.2.2.2.2.2.2.1.name = "cutByTwo" := hin
  refine v_L [(0, .ref (bs + a0))] rfl ?_
  unfold fX0_cutByTwo at h
  refine v_iconst C (0 : Int32) dX0_cutByTwo_0 (by decide) ?_
  refine v_istore_n C [(1, .int (0 : Int32)), (0, .ref (bs + a0))] dX0_cutByTwo_1 rfl (by decide) rfl ?_
  refine v_sub [(0, .ref (bs + a0)), (1, .int (0 : Int32))] [1, 0] rfl ?_
  refine it2_S (V := fun x1 u' => VV X D bs u0 rmX0_cutByTwo 5 0 0 (MQ X.2.2.2.2.2.2.1 (uQi D bs u0 v r) X.2.2.2.2.2.1 X.2.2.2.1 0 0 (uA bs u0)) u' 2 [(0, .ref (bs + a0)), (1, .int x1)] []) h (fun k_ hk_ => wX0_cutByTwo_B2 C hin hk_ ?_ (fun x hx => Option.some.inj (show some x = some _ from hx)))
  intro z14 h
  try dsimp only [Sum.elim_inl] at h
  refine v_iconst C (0 : Int32) dX0_cutByTwo_89 (by decide) ?_
  exact v_zret C dX0_cutByTwo_90 (Prod.mk.inj (Option.some.inj h)).2 (Prod.mk.inj (Option.some.inj h)).1 rfl
set_option maxRecDepth 100000 in
set_option maxHeartbeats 4000000 in
theorem mX0_isWorthTrying {l : Launch} {D : UD} {bs : Nat} {a0 : Nat} {x1 : Int32} {x2 : Int32} {x3 : Int32} {u0 : UH} {r : Int32} (h : fX0_isWorthTrying a0 x1 x2 x3 u0 = some r) : Met l yX0_isWorthTrying (wz yX0_isWorthTrying cX0_isWorthTrying 4 (some .boolean)) rmX0_isWorthTrying (va_Pc [.ref (bs + a0), .int x1, .int x2, .int x3] (uIn D bs u0)) (uQi D bs u0 u0 r) 0 0 (uA bs u0) := by
  refine uMet (by decide) (Nat.le_of_ble_eq_true rfl) ?_
  intro X tw hX C hin
  have C : uCx X D bs tw cX0_isWorthTrying 4 RX0 (some .boolean) := C
  have hin : X.2.2.2.2.2.2.2.1.name = "isWorthTrying" := hin
  refine v_L [(0, .ref (bs + a0)), (1, .int x1), (2, .int x2), (3, .int x3)] rfl ?_
  unfold fX0_isWorthTrying at h
  refine v_aload_n C 0 dX0_isWorthTrying_0 rfl rfl ?_
  refine v_getR C fdX0_19 dX0_isWorthTrying_1 h (fun b1 h => ?_)
  refine v_iload_n C 1 dX0_isWorthTrying_4 rfl rfl ?_
  refine v_bipush C (36 : Int32) dX0_isWorthTrying_5 (by decide) ?_
  refine v_imul C dX0_isWorthTrying_7 ?_
  refine v_iload_n C 2 dX0_isWorthTrying_8 rfl rfl ?_
  refine v_iadd C dX0_isWorthTrying_9 ?_
  refine v_ldJ C dX0_isWorthTrying_10 h (fun y2 h => ?_)
  refine v_iload_n C 3 dX0_isWorthTrying_11 rfl rfl ?_
  obtain ⟨y3, h1, h⟩ := ob_some h
  refine v_goi (rn_S C gcX0_61 (mX0_isOn h1) ⟨rfl, rfl⟩ rfl ⟨Nat.le_of_ble_eq_true rfl, Nat.le_of_ble_eq_true rfl⟩ (rest := []) rfl (Nat.le_of_ble_eq_true rfl) ⟨Nat.le_of_ble_eq_true rfl, Nat.le_of_ble_eq_true rfl⟩ dX0_isWorthTrying_12) ?_
  refine v_ifeq C 58 dX0_isWorthTrying_15 (by decide) h (fun _ h => ?_) (fun _ h => ?_)
  · refine v_iconst C (0 : Int32) dX0_isWorthTrying_58 (by decide) ?_
    exact v_zret C dX0_isWorthTrying_59 rfl (Option.some.inj h) rfl
  · refine v_aload_n C 0 dX0_isWorthTrying_18 rfl rfl ?_
    refine v_getR C fdX0_19 dX0_isWorthTrying_19 h (fun b4 h => ?_)
    refine v_iload_n C 1 dX0_isWorthTrying_22 rfl rfl ?_
    refine v_bipush C (36 : Int32) dX0_isWorthTrying_23 (by decide) ?_
    refine v_imul C dX0_isWorthTrying_25 ?_
    refine v_iload_n C 3 dX0_isWorthTrying_26 rfl rfl ?_
    refine v_iadd C dX0_isWorthTrying_27 ?_
    refine v_ldJ C dX0_isWorthTrying_28 h (fun y5 h => ?_)
    refine v_iload_n C 2 dX0_isWorthTrying_29 rfl rfl ?_
    obtain ⟨y6, h1, h⟩ := ob_some h
    refine v_goi (rn_S C gcX0_61 (mX0_isOn h1) ⟨rfl, rfl⟩ rfl ⟨Nat.le_of_ble_eq_true rfl, Nat.le_of_ble_eq_true rfl⟩ (rest := []) rfl (Nat.le_of_ble_eq_true rfl) ⟨Nat.le_of_ble_eq_true rfl, Nat.le_of_ble_eq_true rfl⟩ dX0_isWorthTrying_30) ?_
    refine v_ifeq C 58 dX0_isWorthTrying_33 (by decide) h (fun _ h => ?_) (fun _ h => ?_)
    · refine v_iconst C (0 : Int32) dX0_isWorthTrying_58 (by decide) ?_
      exact v_zret C dX0_isWorthTrying_59 rfl (Option.some.inj h) rfl
    · refine v_aload_n C 0 dX0_isWorthTrying_36 rfl rfl ?_
      refine v_getR C fdX0_19 dX0_isWorthTrying_37 h (fun b7 h => ?_)
      refine v_iload_n C 2 dX0_isWorthTrying_40 rfl rfl ?_
      refine v_bipush C (36 : Int32) dX0_isWorthTrying_41 (by decide) ?_
      refine v_imul C dX0_isWorthTrying_43 ?_
      refine v_iload_n C 3 dX0_isWorthTrying_44 rfl rfl ?_
      refine v_iadd C dX0_isWorthTrying_45 ?_
      refine v_ldJ C dX0_isWorthTrying_46 h (fun y8 h => ?_)
      refine v_iload_n C 1 dX0_isWorthTrying_47 rfl rfl ?_
      obtain ⟨y9, h1, h⟩ := ob_some h
      refine v_goi (rn_S C gcX0_61 (mX0_isOn h1) ⟨rfl, rfl⟩ rfl ⟨Nat.le_of_ble_eq_true rfl, Nat.le_of_ble_eq_true rfl⟩ (rest := []) rfl (Nat.le_of_ble_eq_true rfl) ⟨Nat.le_of_ble_eq_true rfl, Nat.le_of_ble_eq_true rfl⟩ dX0_isWorthTrying_48) ?_
      refine v_ifeq C 58 dX0_isWorthTrying_51 (by decide) h (fun _ h => ?_) (fun _ h => ?_)
      · refine v_iconst C (0 : Int32) dX0_isWorthTrying_58 (by decide) ?_
        exact v_zret C dX0_isWorthTrying_59 rfl (Option.some.inj h) rfl
      · refine v_iconst C (1 : Int32) dX0_isWorthTrying_54 (by decide) ?_
        refine v_goto C 59 dX0_isWorthTrying_55 (by decide) ?_
        exact v_zret C dX0_isWorthTrying_59 rfl (Option.some.inj h) rfl
set_option maxRecDepth 100000 in
set_option maxHeartbeats 4000000 in
theorem wX0_cutByThree_B35 {X : UX} {D : UD} {bs tw : Nat} {u0 : UH} {r : Int32} {v : UH} (C : uCx X D bs tw cX0_cutByThree 6 RX0 (some .boolean)) (hin : X.2.2.2.2.2.2.2.1.name = "cutByThree") {a0 : Nat} {x1 : Int32} {x2 : Int32} {x3 : Int64}  {G : (UH ⊕ (Int32 × UH)) → Prop} {k : Int32 → UH → Option (UH ⊕ (Int32 × UH))} (hk : ∀ (x5 : Int32) (u' : UH) e, k x5 u' = some e → G e → VV X D bs u0 rmX0_cutByThree 6 0 0 (MQ X.2.2.2.2.2.2.1 (uQi D bs u0 v r) X.2.2.2.2.2.1 X.2.2.2.1 0 0 (uA bs u0)) u' 35 [(0, .ref (bs + a0)), (1, .int x1), (2, .int x2), (3, .long x3), (5, .int x5)] []) (hex : ∀  (u' : UH), G (Sum.inl u') → VV X D bs u0 rmX0_cutByThree 6 0 0 (MQ X.2.2.2.2.2.2.1 (uQi D bs u0 v r) X.2.2.2.2.2.1 X.2.2.2.1 0 0 (uA bs u0)) u' 113 [(0, .ref (bs + a0)), (1, .int x1), (2, .int x2)] []) (hret : ∀ x, G (Sum.inr x) → x = (r, v)) : ∀ (x5 : Int32) (u : UH) e, fX0_cutByThree_B35 a0 x1 x2 x3  k x5 u = some e → G e → VV X D bs u0 rmX0_cutByThree 6 0 0 (MQ X.2.2.2.2.2.2.1 (uQi D bs u0 v r) X.2.2.2.2.2.1 X.2.2.2.1 0 0 (uA bs u0)) u 35 [(0, .ref (bs + a0)), (1, .int x1), (2, .int x2), (3, .long x3), (5, .int x5)] [] := by
  intro x5 u e h g
  unfold fX0_cutByThree_B35 at h
  refine v_iload C 4 dX0_cutByThree_35 rfl ?_
  refine v_bipush C (36 : Int32) dX0_cutByThree_37 (by decide) ?_
  refine v_icmpge C 113 dX0_cutByThree_39 (by decide) h (fun _ h => ?_) (fun _ h => ?_)
  · refine v_sub [(0, .ref (bs + a0)), (1, .int x1), (2, .int x2)] [0, 1, 2] rfl ?_
    exact hex u ((Option.some.inj h).symm ▸ g)
  · refine v_lload_n C 3 dX0_cutByThree_42 rfl rfl ?_
    refine v_iload C 4 dX0_cutByThree_43 rfl ?_
    refine v_lushr C dX0_cutByThree_45 ?_
    refine v_lconst C (0 : Int64) dX0_cutByThree_46 (by decide) ?_
    refine v_lcmpeq C 113 dX0_cutByThree_47 dX0_cutByThree_48 (by decide) h (fun _ h => ?_) (fun _ h => ?_)
    · refine v_sub [(0, .ref (bs + a0)), (1, .int x1), (2, .int x2)] [0, 1, 2] rfl ?_
      exact hex u ((Option.some.inj h).symm ▸ g)
    · refine v_aload_n C 0 dX0_cutByThree_51 rfl rfl ?_
      refine v_iload_n C 1 dX0_cutByThree_52 rfl rfl ?_
      refine v_iload_n C 2 dX0_cutByThree_53 rfl rfl ?_
      refine v_iload C 4 dX0_cutByThree_54 rfl ?_
      obtain ⟨y5, h1, h⟩ := ob_some h
      obtain ⟨hkd, h1⟩ := kd_some h1
      refine v_goi (rn_V C gcX0_69 (RX0, TX0, 11) rfl rfl (by decide) hkd (mX0_isWorthTrying h1) ⟨rfl, rfl⟩ rfl ⟨Nat.le_of_ble_eq_true rfl, Nat.le_of_ble_eq_true rfl⟩ (rest := []) rfl (Nat.le_of_ble_eq_true rfl) ⟨Nat.le_of_ble_eq_true rfl, Nat.le_of_ble_eq_true rfl⟩ dX0_cutByThree_56) ?_
      refine v_ifeq C 107 dX0_cutByThree_59 (by decide) h (fun _ h => ?_) (fun _ h => ?_)
      · refine v_iinc C 4 (x5 + (1 : Int32)) [(5, .int (x5 + (1 : Int32))), (0, .ref (bs + a0)), (1, .int x1), (2, .int x2), (3, .long x3)] dX0_cutByThree_107 rfl rfl (by decide) rfl ?_
        refine v_goto C 35 dX0_cutByThree_110 (by decide) ?_
        refine v_sub [(0, .ref (bs + a0)), (1, .int x1), (2, .int x2), (3, .long x3), (5, .int (x5 + (1 : Int32)))] [1, 2, 3, 4, 0] rfl ?_
        exact hk (x5 + (1 : Int32)) u _ h g
      · refine v_aload_n C 0 dX0_cutByThree_62 rfl rfl ?_
        refine v_lconst C (1 : Int64) dX0_cutByThree_63 (by decide) ?_
        refine v_iload_n C 1 dX0_cutByThree_64 rfl rfl ?_
        refine v_lshl C dX0_cutByThree_65 ?_
        refine v_lconst C (1 : Int64) dX0_cutByThree_66 (by decide) ?_
        refine v_iload_n C 2 dX0_cutByThree_67 rfl rfl ?_
        refine v_lshl C dX0_cutByThree_68 ?_
        refine v_lor C dX0_cutByThree_69 ?_
        refine v_lconst C (1 : Int64) dX0_cutByThree_70 (by decide) ?_
        refine v_iload C 4 dX0_cutByThree_71 rfl ?_
        refine v_lshl C dX0_cutByThree_73 ?_
        refine v_lor C dX0_cutByThree_74 ?_
        obtain ⟨y6, u7, h1, h⟩ := ob2_some h
        obtain ⟨hkd, h1⟩ := kd_some h1
        refine v_gol (rn_V C gcX0_46 (RX0, TX0, 11) rfl rfl (by decide) hkd (mX0_openWay h1) ⟨rfl, rfl⟩ rfl ⟨Nat.le_of_ble_eq_true rfl, Nat.le_of_ble_eq_true rfl⟩ (rest := []) rfl (Nat.le_of_ble_eq_true rfl) ⟨Nat.le_of_ble_eq_true rfl, Nat.le_of_ble_eq_true rfl⟩ dX0_cutByThree_75) ?_
        refine v_lconst C (0 : Int64) dX0_cutByThree_78 (by decide) ?_
        refine v_lcmpne C 107 dX0_cutByThree_79 dX0_cutByThree_80 (by decide) h (fun _ h => ?_) (fun _ h => ?_)
        · refine v_iinc C 4 (x5 + (1 : Int32)) [(5, .int (x5 + (1 : Int32))), (0, .ref (bs + a0)), (1, .int x1), (2, .int x2), (3, .long x3)] dX0_cutByThree_107 rfl rfl (by decide) rfl ?_
          refine v_goto C 35 dX0_cutByThree_110 (by decide) ?_
          refine v_sub [(0, .ref (bs + a0)), (1, .int x1), (2, .int x2), (3, .long x3), (5, .int (x5 + (1 : Int32)))] [1, 2, 3, 4, 0] rfl ?_
          exact hk (x5 + (1 : Int32)) u7 _ h g
        · refine v_aload_n C 0 dX0_cutByThree_83 rfl rfl ?_
          refine v_getR C fdX0_9 dX0_cutByThree_84 h (fun b8 h => ?_)
          refine v_iconst C (0 : Int32) dX0_cutByThree_87 (by decide) ?_
          refine v_iload_n C 1 dX0_cutByThree_88 rfl rfl ?_
          refine v_stI C dX0_cutByThree_89 h (fun u9 h => ?_)
          refine v_aload_n C 0 dX0_cutByThree_90 rfl rfl ?_
          refine v_getR C fdX0_9 dX0_cutByThree_91 h (fun b10 h => ?_)
          refine v_iconst C (1 : Int32) dX0_cutByThree_94 (by decide) ?_
          refine v_iload_n C 2 dX0_cutByThree_95 rfl rfl ?_
          refine v_stI C dX0_cutByThree_96 h (fun u11 h => ?_)
          refine v_aload_n C 0 dX0_cutByThree_97 rfl rfl ?_
          refine v_getR C fdX0_9 dX0_cutByThree_98 h (fun b12 h => ?_)
          refine v_iconst C (2 : Int32) dX0_cutByThree_101 (by decide) ?_
          refine v_iload C 4 dX0_cutByThree_102 rfl ?_
          refine v_stI C dX0_cutByThree_104 h (fun u13 h => ?_)
          refine v_iconst C (1 : Int32) dX0_cutByThree_105 (by decide) ?_
          have h := hret ((1 : Int32), u13) ((Option.some.inj h).symm ▸ g)
          exact v_zret C dX0_cutByThree_106 (Prod.mk.inj h).2 (Prod.mk.inj h).1 rfl
set_option maxRecDepth 100000 in
set_option maxHeartbeats 4000000 in
theorem wX0_cutByThree_B12 {X : UX} {D : UD} {bs tw : Nat} {u0 : UH} {r : Int32} {v : UH} (C : uCx X D bs tw cX0_cutByThree 6 RX0 (some .boolean)) (hin : X.2.2.2.2.2.2.2.1.name = "cutByThree") {a0 : Nat} {x1 : Int32}  {G : (UH ⊕ (Int32 × UH)) → Prop} {k : Int32 → UH → Option (UH ⊕ (Int32 × UH))} (hk : ∀ (x2 : Int32) (u' : UH) e, k x2 u' = some e → G e → VV X D bs u0 rmX0_cutByThree 6 0 0 (MQ X.2.2.2.2.2.2.1 (uQi D bs u0 v r) X.2.2.2.2.2.1 X.2.2.2.1 0 0 (uA bs u0)) u' 12 [(0, .ref (bs + a0)), (1, .int x1), (2, .int x2)] []) (hex : ∀  (u' : UH), G (Sum.inl u') → VV X D bs u0 rmX0_cutByThree 6 0 0 (MQ X.2.2.2.2.2.2.1 (uQi D bs u0 v r) X.2.2.2.2.2.1 X.2.2.2.1 0 0 (uA bs u0)) u' 119 [(0, .ref (bs + a0)), (1, .int x1)] []) (hret : ∀ x, G (Sum.inr x) → x = (r, v)) : ∀ (x2 : Int32) (u : UH) e, fX0_cutByThree_B12 a0 x1  k x2 u = some e → G e → VV X D bs u0 rmX0_cutByThree 6 0 0 (MQ X.2.2.2.2.2.2.1 (uQi D bs u0 v r) X.2.2.2.2.2.1 X.2.2.2.1 0 0 (uA bs u0)) u 12 [(0, .ref (bs + a0)), (1, .int x1), (2, .int x2)] [] := by
  intro x2 u e h g
  unfold fX0_cutByThree_B12 at h
  refine v_iload_n C 2 dX0_cutByThree_12 rfl rfl ?_
  refine v_bipush C (36 : Int32) dX0_cutByThree_13 (by decide) ?_
  refine v_icmpge C 119 dX0_cutByThree_15 (by decide) h (fun _ h => ?_) (fun _ h => ?_)
  · refine v_sub [(0, .ref (bs + a0)), (1, .int x1)] [0, 1] rfl ?_
    exact hex u ((Option.some.inj h).symm ▸ g)
  · refine v_aload_n C 0 dX0_cutByThree_18 rfl rfl ?_
    refine v_getR C fdX0_19 dX0_cutByThree_19 h (fun b2 h => ?_)
    refine v_iload_n C 1 dX0_cutByThree_22 rfl rfl ?_
    refine v_bipush C (36 : Int32) dX0_cutByThree_23 (by decide) ?_
    refine v_imul C dX0_cutByThree_25 ?_
    refine v_iload_n C 2 dX0_cutByThree_26 rfl rfl ?_
    refine v_iadd C dX0_cutByThree_27 ?_
    refine v_ldJ C dX0_cutByThree_28 h (fun y3 h => ?_)
    refine v_lstore_n C [(3, .long y3), (0, .ref (bs + a0)), (1, .int x1), (2, .int x2)] dX0_cutByThree_29 rfl (by decide) rfl ?_
    refine v_iload_n C 3 dX0_cutByThree_30 rfl rfl ?_
    refine v_iconst C (1 : Int32) dX0_cutByThree_31 (by decide) ?_
    refine v_iadd C dX0_cutByThree_32 ?_
    refine v_lti h (fun y4 h => ?_)
    refine v_istore C [(5, .int y4), (3, .long y3), (0, .ref (bs + a0)), (1, .int x1), (2, .int x2)] dX0_cutByThree_33 (by decide) rfl ?_
    refine v_sub [(0, .ref (bs + a0)), (1, .int x1), (2, .int x2), (3, .long y3), (5, .int y4)] [2, 3, 4, 1, 0] rfl ?_
    refine it2_S (V := fun x5 u' => VV X D bs u0 rmX0_cutByThree 6 0 0 (MQ X.2.2.2.2.2.2.1 (uQi D bs u0 v r) X.2.2.2.2.2.1 X.2.2.2.1 0 0 (uA bs u0)) u' 35 [(0, .ref (bs + a0)), (1, .int x1), (2, .int x2), (3, .long y3), (5, .int x5)] []) h (fun k_ hk_ => wX0_cutByThree_B35 C hin hk_ ?_ (fun x hx => hret x ((Option.some.inj (show some (Sum.inr x) = some _ from hx)).symm ▸ g)))
    intro z15 h
    try dsimp only [Sum.elim_inl] at h
    refine v_iinc C 2 (x2 + (1 : Int32)) [(2, .int (x2 + (1 : Int32))), (0, .ref (bs + a0)), (1, .int x1)] dX0_cutByThree_113 rfl rfl (by decide) rfl ?_
    refine v_goto C 12 dX0_cutByThree_116 (by decide) ?_
    refine v_sub [(0, .ref (bs + a0)), (1, .int x1), (2, .int (x2 + (1 : Int32)))] [1, 2, 0] rfl ?_
    exact hk (x2 + (1 : Int32)) z15 _ h g
set_option maxRecDepth 100000 in
set_option maxHeartbeats 4000000 in
theorem wX0_cutByThree_B2 {X : UX} {D : UD} {bs tw : Nat} {u0 : UH} {r : Int32} {v : UH} (C : uCx X D bs tw cX0_cutByThree 6 RX0 (some .boolean)) (hin : X.2.2.2.2.2.2.2.1.name = "cutByThree") {a0 : Nat}  {G : (UH ⊕ (Int32 × UH)) → Prop} {k : Int32 → UH → Option (UH ⊕ (Int32 × UH))} (hk : ∀ (x1 : Int32) (u' : UH) e, k x1 u' = some e → G e → VV X D bs u0 rmX0_cutByThree 6 0 0 (MQ X.2.2.2.2.2.2.1 (uQi D bs u0 v r) X.2.2.2.2.2.1 X.2.2.2.1 0 0 (uA bs u0)) u' 2 [(0, .ref (bs + a0)), (1, .int x1)] []) (hex : ∀  (u' : UH), G (Sum.inl u') → VV X D bs u0 rmX0_cutByThree 6 0 0 (MQ X.2.2.2.2.2.2.1 (uQi D bs u0 v r) X.2.2.2.2.2.1 X.2.2.2.1 0 0 (uA bs u0)) u' 125 [] []) (hret : ∀ x, G (Sum.inr x) → x = (r, v)) : ∀ (x1 : Int32) (u : UH) e, fX0_cutByThree_B2 a0  k x1 u = some e → G e → VV X D bs u0 rmX0_cutByThree 6 0 0 (MQ X.2.2.2.2.2.2.1 (uQi D bs u0 v r) X.2.2.2.2.2.1 X.2.2.2.1 0 0 (uA bs u0)) u 2 [(0, .ref (bs + a0)), (1, .int x1)] [] := by
  intro x1 u e h g
  unfold fX0_cutByThree_B2 at h
  refine v_iload_n C 1 dX0_cutByThree_2 rfl rfl ?_
  refine v_bipush C (36 : Int32) dX0_cutByThree_3 (by decide) ?_
  refine v_icmpge C 125 dX0_cutByThree_5 (by decide) h (fun _ h => ?_) (fun _ h => ?_)
  · refine v_sub [] [] rfl ?_
    exact hex u ((Option.some.inj h).symm ▸ g)
  · refine v_iload_n C 1 dX0_cutByThree_8 rfl rfl ?_
    refine v_iconst C (1 : Int32) dX0_cutByThree_9 (by decide) ?_
    refine v_iadd C dX0_cutByThree_10 ?_
    refine v_lti h (fun y1 h => ?_)
    refine v_istore_n C [(2, .int y1), (0, .ref (bs + a0)), (1, .int x1)] dX0_cutByThree_11 rfl (by decide) rfl ?_
    refine v_sub [(0, .ref (bs + a0)), (1, .int x1), (2, .int y1)] [1, 2, 0] rfl ?_
    refine it2_S (V := fun x2 u' => VV X D bs u0 rmX0_cutByThree 6 0 0 (MQ X.2.2.2.2.2.2.1 (uQi D bs u0 v r) X.2.2.2.2.2.1 X.2.2.2.1 0 0 (uA bs u0)) u' 12 [(0, .ref (bs + a0)), (1, .int x1), (2, .int x2)] []) h (fun k_ hk_ => wX0_cutByThree_B12 C hin hk_ ?_ (fun x hx => hret x ((Option.some.inj (show some (Sum.inr x) = some _ from hx)).symm ▸ g)))
    intro z17 h
    try dsimp only [Sum.elim_inl] at h
    refine v_iinc C 1 (x1 + (1 : Int32)) [(1, .int (x1 + (1 : Int32))), (0, .ref (bs + a0))] dX0_cutByThree_119 rfl rfl (by decide) rfl ?_
    refine v_goto C 2 dX0_cutByThree_122 (by decide) ?_
    refine v_sub [(0, .ref (bs + a0)), (1, .int (x1 + (1 : Int32)))] [1, 0] rfl ?_
    exact hk (x1 + (1 : Int32)) z17 _ h g
set_option maxRecDepth 100000 in
set_option maxHeartbeats 4000000 in
theorem mX0_cutByThree {l : Launch} {D : UD} {bs : Nat} {a0 : Nat} {u0 : UH} {r : Int32} {v : UH} (h : fX0_cutByThree a0 u0 = some (r, v)) : Met l yX0_cutByThree (wz yX0_cutByThree cX0_cutByThree 6 (some .boolean)) rmX0_cutByThree (va_Pc [.ref (bs + a0)] (uIn D bs u0)) (uQi D bs u0 v r) 0 0 (uA bs u0) := by
  refine uMet (by decide) (Nat.le_of_ble_eq_true rfl) ?_
  intro X tw hX C hin
  have C : uCx X D bs tw cX0_cutByThree 6 RX0 (some .boolean) := C
  have hin : X.2.2.2.2.2.2.2.1.name = "cutByThree" := hin
  refine v_L [(0, .ref (bs + a0))] rfl ?_
  unfold fX0_cutByThree at h
  refine v_iconst C (0 : Int32) dX0_cutByThree_0 (by decide) ?_
  refine v_istore_n C [(1, .int (0 : Int32)), (0, .ref (bs + a0))] dX0_cutByThree_1 rfl (by decide) rfl ?_
  refine v_sub [(0, .ref (bs + a0)), (1, .int (0 : Int32))] [1, 0] rfl ?_
  refine it2_S (V := fun x1 u' => VV X D bs u0 rmX0_cutByThree 6 0 0 (MQ X.2.2.2.2.2.2.1 (uQi D bs u0 v r) X.2.2.2.2.2.1 X.2.2.2.1 0 0 (uA bs u0)) u' 2 [(0, .ref (bs + a0)), (1, .int x1)] []) h (fun k_ hk_ => wX0_cutByThree_B2 C hin hk_ ?_ (fun x hx => Option.some.inj (show some x = some _ from hx)))
  intro z19 h
  try dsimp only [Sum.elim_inl] at h
  refine v_iconst C (0 : Int32) dX0_cutByThree_125 (by decide) ?_
  exact v_zret C dX0_cutByThree_126 (Prod.mk.inj (Option.some.inj h)).2 (Prod.mk.inj (Option.some.inj h)).1 rfl
set_option maxRecDepth 100000 in
set_option maxHeartbeats 4000000 in
theorem mX0_smallest {l : Launch} {D : UD} {bs : Nat} {a0 : Nat} {x1 : Int32} {x2 : Int64} {x4 : Int32} {u0 : UH} {r : Int32} {v : UH} (h : fX0_smallest a0 x1 x2 x4 u0 = some (r, v)) : Met l yX0_smallest (wz yX0_smallest cX0_smallest 7 (some .int)) rmX0_smallest (va_Pc [.ref (bs + a0), .int x1, .long x2, .int x4] (uIn D bs u0)) (uQi D bs u0 v r) 0 0 (uA bs u0) := by
  refine uMet (by decide) (Nat.le_of_ble_eq_true rfl) ?_
  intro X tw hX C hin
  have C : uCx X D bs tw cX0_smallest 7 RX0 (some .int) := C
  have hin : X.2.2.2.2.2.2.2.1.name = "smallest" := hin
  refine v_L [(0, .ref (bs + a0)), (1, .int x1), (2, .long x2), (4, .int x4)] rfl ?_
  unfold fX0_smallest at h
  refine v_aload_n C 0 dX0_smallest_0 rfl rfl ?_
  refine v_iload_n C 1 dX0_smallest_1 rfl rfl ?_
  refine v_putI C fdX0_35 (fun h => by cases h) dX0_smallest_2 h (fun u1 h => ?_)
  refine v_aload_n C 0 dX0_smallest_5 rfl rfl ?_
  refine v_lload_n C 2 dX0_smallest_6 rfl rfl ?_
  refine v_putJ C fdX0_39 (fun h => by cases h) dX0_smallest_7 h (fun u2 h => ?_)
  refine v_aload_n C 0 dX0_smallest_10 rfl rfl ?_
  refine v_iload C 3 dX0_smallest_11 rfl ?_
  refine v_putI C fdX0_43 (fun h => by cases h) dX0_smallest_13 h (fun u3 h => ?_)
  refine v_aload_n C 0 dX0_smallest_16 rfl rfl ?_
  refine v_lconst C (0 : Int64) dX0_smallest_17 (by decide) ?_
  obtain ⟨y4, u5, h1, h⟩ := ob2_some h
  obtain ⟨hkd, h1⟩ := kd_some h1
  refine v_gol (rn_V C gcX0_46 (RX0, TX0, 11) rfl rfl (by decide) hkd (mX0_openWay h1) ⟨rfl, rfl⟩ rfl ⟨Nat.le_of_ble_eq_true rfl, Nat.le_of_ble_eq_true rfl⟩ (rest := []) rfl (Nat.le_of_ble_eq_true rfl) ⟨Nat.le_of_ble_eq_true rfl, Nat.le_of_ble_eq_true rfl⟩ dX0_smallest_18) ?_
  refine v_lstore C [(5, .long y4), (0, .ref (bs + a0)), (1, .int x1), (2, .long x2), (4, .int x4)] dX0_smallest_21 (by decide) rfl ?_
  refine v_lload C 0 dX0_smallest_23 rfl ?_
  refine v_lconst C (0 : Int64) dX0_smallest_25 (by decide) ?_
  refine v_lcmpne C 32 dX0_smallest_26 dX0_smallest_27 (by decide) h (fun _ h => ?_) (fun _ h => ?_)
  · refine v_aload_n C 1 dX0_smallest_32 rfl rfl ?_
    refine v_lload C 0 dX0_smallest_33 rfl ?_
    obtain ⟨y6, u7, h1, h⟩ := ob2_some h
    obtain ⟨hkd, h1⟩ := kd_some h1
    refine v_goi (rn_V C gcX0_50 (RX0, TX0, 11) rfl rfl (by decide) hkd (mX0_cutByOne h1) ⟨rfl, rfl⟩ rfl ⟨Nat.le_of_ble_eq_true rfl, Nat.le_of_ble_eq_true rfl⟩ (rest := []) rfl (Nat.le_of_ble_eq_true rfl) ⟨Nat.le_of_ble_eq_true rfl, Nat.le_of_ble_eq_true rfl⟩ dX0_smallest_35) ?_
    refine v_ifeq C 43 dX0_smallest_38 (by decide) h (fun _ h => ?_) (fun _ h => ?_)
    · refine v_aload_n C 1 dX0_smallest_43 rfl rfl ?_
      obtain ⟨y8, u9, h1, h⟩ := ob2_some h
      obtain ⟨hkd, h1⟩ := kd_some h1
      refine v_goi (rn_V C gcX0_54 (RX0, TX0, 11) rfl rfl (by decide) hkd (mX0_cutByTwo h1) ⟨rfl, rfl⟩ rfl ⟨Nat.le_of_ble_eq_true rfl, Nat.le_of_ble_eq_true rfl⟩ (rest := []) rfl (Nat.le_of_ble_eq_true rfl) ⟨Nat.le_of_ble_eq_true rfl, Nat.le_of_ble_eq_true rfl⟩ dX0_smallest_44) ?_
      refine v_ifeq C 52 dX0_smallest_47 (by decide) h (fun _ h => ?_) (fun _ h => ?_)
      · refine v_aload_n C 1 dX0_smallest_52 rfl rfl ?_
        obtain ⟨y10, u11, h1, h⟩ := ob2_some h
        obtain ⟨hkd, h1⟩ := kd_some h1
        refine v_goi (rn_V C gcX0_58 (RX0, TX0, 11) rfl rfl (by decide) hkd (mX0_cutByThree h1) ⟨rfl, rfl⟩ rfl ⟨Nat.le_of_ble_eq_true rfl, Nat.le_of_ble_eq_true rfl⟩ (rest := []) rfl (Nat.le_of_ble_eq_true rfl) ⟨Nat.le_of_ble_eq_true rfl, Nat.le_of_ble_eq_true rfl⟩ dX0_smallest_53) ?_
        refine v_ifeq C 63 dX0_smallest_56 (by decide) h (fun _ h => ?_) (fun _ h => ?_)
        · refine v_bipush C (-6 : Int32) dX0_smallest_63 (by decide) ?_
          exact v_iret C dX0_smallest_65 (Prod.mk.inj (Option.some.inj h)).2 (Prod.mk.inj (Option.some.inj h)).1
        · refine v_iconst C (3 : Int32) dX0_smallest_59 (by decide) ?_
          refine v_goto C 65 dX0_smallest_60 (by decide) ?_
          exact v_iret C dX0_smallest_65 (Prod.mk.inj (Option.some.inj h)).2 (Prod.mk.inj (Option.some.inj h)).1
      · refine v_iconst C (2 : Int32) dX0_smallest_50 (by decide) ?_
        exact v_iret C dX0_smallest_51 (Prod.mk.inj (Option.some.inj h)).2 (Prod.mk.inj (Option.some.inj h)).1
    · refine v_iconst C (1 : Int32) dX0_smallest_41 (by decide) ?_
      exact v_iret C dX0_smallest_42 (Prod.mk.inj (Option.some.inj h)).2 (Prod.mk.inj (Option.some.inj h)).1
  · refine v_iconst C (0 : Int32) dX0_smallest_30 (by decide) ?_
    exact v_iret C dX0_smallest_31 (Prod.mk.inj (Option.some.inj h)).2 (Prod.mk.inj (Option.some.inj h)).1
set_option maxRecDepth 100000 in
set_option maxHeartbeats 4000000 in
theorem mX11_cutSize {l : Launch} {D : UD} {bs : Nat} {a0 : Nat} {x1 : Int32} {x2 : Int32} {u0 : UH} {r : Int32} {v : UH} (h : fX11_cutSize a0 x1 x2 u0 = some (r, v)) : Met l yX11_cutSize (wz yX11_cutSize cX11_cutSize 3 (some .int)) rmX11_cutSize (va_Pc [.ref (bs + a0), .int x1, .int x2] (uIn D bs u0)) (uQi D bs u0 v r) 0 0 (uA bs u0) := by
  refine uMet (by decide) (Nat.le_of_ble_eq_true rfl) ?_
  intro X tw hX C hin
  have C : uCx X D bs tw cX11_cutSize 3 RX11 (some .int) := C
  have hin : X.2.2.2.2.2.2.2.1.name = "cutSize" := hin
  refine v_L [(0, .ref (bs + a0)), (1, .int x1), (2, .int x2)] rfl ?_
  unfold fX11_cutSize at h
  refine v_iload_n C 1 dX11_cutSize_0 rfl rfl ?_
  refine v_iload_n C 2 dX11_cutSize_1 rfl rfl ?_
  obtain ⟨y1, h1, h⟩ := ob_some h
  refine v_goi (rn_S C gcX11_101 (mX11_isPlace h1) ⟨rfl, rfl⟩ rfl ⟨Nat.le_of_ble_eq_true rfl, Nat.le_of_ble_eq_true rfl⟩ (rest := []) rfl (Nat.le_of_ble_eq_true rfl) ⟨Nat.le_of_ble_eq_true rfl, Nat.le_of_ble_eq_true rfl⟩ dX11_cutSize_2) ?_
  refine v_ifne C 10 dX11_cutSize_5 (by decide) h (fun _ h => ?_) (fun _ h => ?_)
  · refine v_aload_n C 0 dX11_cutSize_10 rfl rfl ?_
    refine v_getR C fdX11_51 dX11_cutSize_11 h (fun b2 h => ?_)
    refine v_aload_n C 0 dX11_cutSize_14 rfl rfl ?_
    refine v_getI C fdX11_98 dX11_cutSize_15 h (fun y3 h => ?_)
    refine v_aload_n C 0 dX11_cutSize_18 rfl rfl ?_
    refine v_getJ C fdX11_80 dX11_cutSize_19 h (fun y4 h => ?_)
    refine v_iload_n C 1 dX11_cutSize_22 rfl rfl ?_
    refine v_iload_n C 2 dX11_cutSize_23 rfl rfl ?_
    obtain ⟨y5, h1, h⟩ := ob_some h
    refine v_goi (rn_S C gcX11_105 (mX11_placeOf h1) ⟨rfl, rfl⟩ rfl ⟨Nat.le_of_ble_eq_true rfl, Nat.le_of_ble_eq_true rfl⟩ (rest := [.long y4, .int y3, .ref (bs + b2)]) rfl (Nat.le_of_ble_eq_true rfl) ⟨Nat.le_of_ble_eq_true rfl, Nat.le_of_ble_eq_true rfl⟩ dX11_cutSize_24) ?_
    obtain ⟨y6, u7, h1, h⟩ := ob2_some h
    obtain ⟨hkd, h1⟩ := kd_some h1
    refine v_goi (rn_V C gcX11_289 (RX0, TX0, 11) rfl rfl (by decide) hkd (mX0_smallest h1) ⟨rfl, rfl⟩ rfl ⟨Nat.le_of_ble_eq_true rfl, Nat.le_of_ble_eq_true rfl⟩ (rest := []) rfl (Nat.le_of_ble_eq_true rfl) ⟨Nat.le_of_ble_eq_true rfl, Nat.le_of_ble_eq_true rfl⟩ dX11_cutSize_27) ?_
    exact v_iret C dX11_cutSize_30 (Prod.mk.inj (Option.some.inj h)).2 (Prod.mk.inj (Option.some.inj h)).1
  · refine v_iconst C (-1 : Int32) dX11_cutSize_8 (by decide) ?_
    exact v_iret C dX11_cutSize_9 (Prod.mk.inj (Option.some.inj h)).2 (Prod.mk.inj (Option.some.inj h)).1
set_option maxRecDepth 100000 in
set_option maxHeartbeats 4000000 in
theorem mX11_cutRule {l : Launch} {D : UD} {bs : Nat} {a0 : Nat} {x1 : Int32} {x2 : Int32} {x3 : Int32} {u0 : UH} {r : Int32} {v : UH} (h : fX11_cutRule a0 x1 x2 x3 u0 = some (r, v)) : Met l yX11_cutRule (wz yX11_cutRule cX11_cutRule 6 (some .int)) rmX11_cutRule (va_Pc [.ref (bs + a0), .int x1, .int x2, .int x3] (uIn D bs u0)) (uQi D bs u0 v r) 0 0 (uA bs u0) := by
  refine uMet (by decide) (Nat.le_of_ble_eq_true rfl) ?_
  intro X tw hX C hin
  have C : uCx X D bs tw cX11_cutRule 6 RX11 (some .int) := C
  have hin : X.2.2.2.2.2.2.2.1.name = "cutRule" := hin
  refine v_L [(0, .ref (bs + a0)), (1, .int x1), (2, .int x2), (3, .int x3)] rfl ?_
  unfold fX11_cutRule at h
  refine v_iload_n C 1 dX11_cutRule_0 rfl rfl ?_
  refine v_iload_n C 2 dX11_cutRule_1 rfl rfl ?_
  obtain ⟨y1, h1, h⟩ := ob_some h
  refine v_goi (rn_S C gcX11_101 (mX11_isPlace h1) ⟨rfl, rfl⟩ rfl ⟨Nat.le_of_ble_eq_true rfl, Nat.le_of_ble_eq_true rfl⟩ (rest := []) rfl (Nat.le_of_ble_eq_true rfl) ⟨Nat.le_of_ble_eq_true rfl, Nat.le_of_ble_eq_true rfl⟩ dX11_cutRule_2) ?_
  refine v_ifne C 10 dX11_cutRule_5 (by decide) h (fun _ h => ?_) (fun _ h => ?_)
  · refine v_iload_n C 3 dX11_cutRule_10 rfl rfl ?_
    refine v_ifge C 17 dX11_cutRule_11 (by decide) h (fun _ h => ?_) (fun _ h => ?_)
    · refine v_aload_n C 0 dX11_cutRule_17 rfl rfl ?_
      refine v_getR C fdX11_51 dX11_cutRule_18 h (fun b2 h => ?_)
      refine v_aload_n C 0 dX11_cutRule_21 rfl rfl ?_
      refine v_getI C fdX11_98 dX11_cutRule_22 h (fun y3 h => ?_)
      refine v_aload_n C 0 dX11_cutRule_25 rfl rfl ?_
      refine v_getJ C fdX11_80 dX11_cutRule_26 h (fun y4 h => ?_)
      refine v_iload_n C 1 dX11_cutRule_29 rfl rfl ?_
      refine v_iload_n C 2 dX11_cutRule_30 rfl rfl ?_
      obtain ⟨y5, h1, h⟩ := ob_some h
      refine v_goi (rn_S C gcX11_105 (mX11_placeOf h1) ⟨rfl, rfl⟩ rfl ⟨Nat.le_of_ble_eq_true rfl, Nat.le_of_ble_eq_true rfl⟩ (rest := [.long y4, .int y3, .ref (bs + b2)]) rfl (Nat.le_of_ble_eq_true rfl) ⟨Nat.le_of_ble_eq_true rfl, Nat.le_of_ble_eq_true rfl⟩ dX11_cutRule_31) ?_
      obtain ⟨y6, u7, h1, h⟩ := ob2_some h
      obtain ⟨hkd, h1⟩ := kd_some h1
      refine v_goi (rn_V C gcX11_289 (RX0, TX0, 11) rfl rfl (by decide) hkd (mX0_smallest h1) ⟨rfl, rfl⟩ rfl ⟨Nat.le_of_ble_eq_true rfl, Nat.le_of_ble_eq_true rfl⟩ (rest := []) rfl (Nat.le_of_ble_eq_true rfl) ⟨Nat.le_of_ble_eq_true rfl, Nat.le_of_ble_eq_true rfl⟩ dX11_cutRule_34) ?_
      refine v_istore C [(4, .int y6), (0, .ref (bs + a0)), (1, .int x1), (2, .int x2), (3, .int x3)] dX11_cutRule_37 (by decide) rfl ?_
      refine v_iload_n C 4 dX11_cutRule_39 rfl rfl ?_
      refine v_iload C 0 dX11_cutRule_40 rfl ?_
      refine v_icmpge C 50 dX11_cutRule_42 (by decide) h (fun _ h => ?_) (fun _ h => ?_)
      · refine v_bipush C (-6 : Int32) dX11_cutRule_50 (by decide) ?_
        exact v_iret C dX11_cutRule_52 (Prod.mk.inj (Option.some.inj h)).2 (Prod.mk.inj (Option.some.inj h)).1
      · refine v_iload_n C 4 dX11_cutRule_45 rfl rfl ?_
        refine v_iconst C (3 : Int32) dX11_cutRule_46 (by decide) ?_
        refine v_icmplt C 53 dX11_cutRule_47 (by decide) h (fun _ h => ?_) (fun _ h => ?_)
        · refine v_aload_n C 1 dX11_cutRule_53 rfl rfl ?_
          refine v_getR C fdX11_51 dX11_cutRule_54 h (fun b8 h => ?_)
          refine v_getR C fdX11_293 dX11_cutRule_57 h (fun b9 h => ?_)
          refine v_iload_n C 4 dX11_cutRule_60 rfl rfl ?_
          refine v_ldI C dX11_cutRule_61 h (fun y10 h => ?_)
          refine v_istore C [(5, .int y10), (4, .int y6), (0, .ref (bs + a0)), (1, .int x1), (2, .int x2), (3, .int x3)] dX11_cutRule_62 (by decide) rfl ?_
          refine v_bipush C (10 : Int32) dX11_cutRule_64 (by decide) ?_
          refine v_iload C 0 dX11_cutRule_66 rfl ?_
          refine v_bipush C (6 : Int32) dX11_cutRule_68 (by decide) ?_
          refine v_idiv C dX11_cutRule_70 (by decide) ?_
          refine v_imul C dX11_cutRule_71 ?_
          refine v_iload C 0 dX11_cutRule_72 rfl ?_
          refine v_bipush C (6 : Int32) dX11_cutRule_74 (by decide) ?_
          refine v_irem C dX11_cutRule_76 (by decide) ?_
          refine v_iadd C dX11_cutRule_77 ?_
          exact v_iret C dX11_cutRule_78 (Prod.mk.inj (Option.some.inj h)).2 (Prod.mk.inj (Option.some.inj h)).1
        · refine v_bipush C (-6 : Int32) dX11_cutRule_50 (by decide) ?_
          exact v_iret C dX11_cutRule_52 (Prod.mk.inj (Option.some.inj h)).2 (Prod.mk.inj (Option.some.inj h)).1
    · refine v_bipush C (-3 : Int32) dX11_cutRule_14 (by decide) ?_
      exact v_iret C dX11_cutRule_16 (Prod.mk.inj (Option.some.inj h)).2 (Prod.mk.inj (Option.some.inj h)).1
  · refine v_iconst C (-1 : Int32) dX11_cutRule_8 (by decide) ?_
    exact v_iret C dX11_cutRule_9 (Prod.mk.inj (Option.some.inj h)).2 (Prod.mk.inj (Option.some.inj h)).1
set_option maxRecDepth 100000 in
set_option maxHeartbeats 4000000 in
theorem mX11_addPolicy {l : Launch} {D : UD} {bs : Nat} {a0 : Nat} {x1 : Int32} {x2 : Int32} {x3 : Int32} {x4 : Int32} {x5 : Int32} {u0 : UH} {r : Int32} {v : UH} (h : fX11_addPolicy a0 x1 x2 x3 x4 x5 u0 = some (r, v)) : Met l yX11_addPolicy (wz yX11_addPolicy cX11_addPolicy 7 (some .int)) rmX11_addPolicy (va_Pc [.ref (bs + a0), .int x1, .int x2, .int x3, .int x4, .int x5] (uIn D bs u0)) (uQi D bs u0 v r) 0 0 (uA bs u0) := by
  refine uMet (by decide) (Nat.le_of_ble_eq_true rfl) ?_
  intro X tw hX C hin
  have C : uCx X D bs tw cX11_addPolicy 7 RX11 (some .int) := C
  have hin : X.2.2.2.2.2.2.2.1.name = "addPolicy" := hin
  refine v_L [(0, .ref (bs + a0)), (1, .int x1), (2, .int x2), (3, .int x3), (4, .int x4), (5, .int x5)] rfl ?_
  unfold fX11_addPolicy at h
  refine v_iload_n C 2 dX11_addPolicy_0 rfl rfl ?_
  refine v_iload_n C 3 dX11_addPolicy_1 rfl rfl ?_
  obtain ⟨y1, h1, h⟩ := ob_some h
  refine v_goi (rn_S C gcX11_101 (mX11_isPlace h1) ⟨rfl, rfl⟩ rfl ⟨Nat.le_of_ble_eq_true rfl, Nat.le_of_ble_eq_true rfl⟩ (rest := []) rfl (Nat.le_of_ble_eq_true rfl) ⟨Nat.le_of_ble_eq_true rfl, Nat.le_of_ble_eq_true rfl⟩ dX11_addPolicy_2) ?_
  refine v_ifeq C 18 dX11_addPolicy_5 (by decide) h (fun _ h => ?_) (fun _ h => ?_)
  · refine v_iconst C (-1 : Int32) dX11_addPolicy_18 (by decide) ?_
    exact v_iret C dX11_addPolicy_19 (Prod.mk.inj (Option.some.inj h)).2 (Prod.mk.inj (Option.some.inj h)).1
  · refine v_iload C 4 dX11_addPolicy_8 rfl ?_
    refine v_iload C 5 dX11_addPolicy_10 rfl ?_
    obtain ⟨y2, h1, h⟩ := ob_some h
    refine v_goi (rn_S C gcX11_101 (mX11_isPlace h1) ⟨rfl, rfl⟩ rfl ⟨Nat.le_of_ble_eq_true rfl, Nat.le_of_ble_eq_true rfl⟩ (rest := []) rfl (Nat.le_of_ble_eq_true rfl) ⟨Nat.le_of_ble_eq_true rfl, Nat.le_of_ble_eq_true rfl⟩ dX11_addPolicy_12) ?_
    refine v_ifne C 20 dX11_addPolicy_15 (by decide) h (fun _ h => ?_) (fun _ h => ?_)
    · refine v_aload_n C 0 dX11_addPolicy_20 rfl rfl ?_
      refine v_getI C fdX11_95 dX11_addPolicy_21 h (fun y3 h => ?_)
      refine v_bipush C (8 : Int32) dX11_addPolicy_24 (by decide) ?_
      refine v_icmplt C 32 dX11_addPolicy_26 (by decide) h (fun _ h => ?_) (fun _ h => ?_)
      · refine v_aload_n C 0 dX11_addPolicy_32 rfl rfl ?_
        refine v_getR C fdX11_71 dX11_addPolicy_33 h (fun b4 h => ?_)
        refine v_aload_n C 0 dX11_addPolicy_36 rfl rfl ?_
        refine v_getI C fdX11_95 dX11_addPolicy_37 h (fun y5 h => ?_)
        refine v_ldR C 24 _ rfl (by decide) dX11_addPolicy_40 h (fun b6 h => ?_)
        refine v_astore C [(6, .ref (bs + b6)), (0, .ref (bs + a0)), (1, .int x1), (2, .int x2), (3, .int x3), (4, .int x4), (5, .int x5)] dX11_addPolicy_41 (by decide) rfl ?_
        refine v_aload C 0 dX11_addPolicy_43 rfl ?_
        refine v_iload_n C 2 dX11_addPolicy_45 rfl rfl ?_
        refine v_putZ C fdX11_296 (fun h => by cases h) dX11_addPolicy_46 h (fun u7 h => ?_)
        refine v_aload C 0 dX11_addPolicy_49 rfl ?_
        refine v_iload_n C 3 dX11_addPolicy_51 rfl rfl ?_
        refine v_iload_n C 4 dX11_addPolicy_52 rfl rfl ?_
        obtain ⟨y8, h1, h⟩ := ob_some h
        refine v_goi (rn_S C gcX11_105 (mX11_placeOf h1) ⟨rfl, rfl⟩ rfl ⟨Nat.le_of_ble_eq_true rfl, Nat.le_of_ble_eq_true rfl⟩ (rest := [.ref (bs + b6)]) rfl (Nat.le_of_ble_eq_true rfl) ⟨Nat.le_of_ble_eq_true rfl, Nat.le_of_ble_eq_true rfl⟩ dX11_addPolicy_53) ?_
        refine v_putI C fdX11_299 (fun h => by cases h) dX11_addPolicy_56 h (fun u9 h => ?_)
        refine v_aload C 0 dX11_addPolicy_59 rfl ?_
        refine v_iload C 5 dX11_addPolicy_61 rfl ?_
        refine v_iload C 6 dX11_addPolicy_63 rfl ?_
        obtain ⟨y10, h1, h⟩ := ob_some h
        refine v_goi (rn_S C gcX11_105 (mX11_placeOf h1) ⟨rfl, rfl⟩ rfl ⟨Nat.le_of_ble_eq_true rfl, Nat.le_of_ble_eq_true rfl⟩ (rest := [.ref (bs + b6)]) rfl (Nat.le_of_ble_eq_true rfl) ⟨Nat.le_of_ble_eq_true rfl, Nat.le_of_ble_eq_true rfl⟩ dX11_addPolicy_65) ?_
        refine v_putI C fdX11_302 (fun h => by cases h) dX11_addPolicy_68 h (fun u11 h => ?_)
        refine v_aload C 0 dX11_addPolicy_71 rfl ?_
        refine v_aload_n C 1 dX11_addPolicy_73 rfl rfl ?_
        refine v_getR C fdX11_14 dX11_addPolicy_74 h (fun b12 h => ?_)
        obtain ⟨y13, h1, h⟩ := ob_some h
        obtain ⟨hkd, h1⟩ := kd_some h1
        refine v_gol (rn_V C gcX11_76 (RX4, TX4, 4) rfl rfl (by decide) hkd (mX4_allHeaders h1) ⟨rfl, rfl⟩ rfl ⟨Nat.le_of_ble_eq_true rfl, Nat.le_of_ble_eq_true rfl⟩ (rest := [.ref (bs + b6)]) rfl (Nat.le_of_ble_eq_true rfl) ⟨Nat.le_of_ble_eq_true rfl, Nat.le_of_ble_eq_true rfl⟩ dX11_addPolicy_77) ?_
        refine v_putJ C fdX11_305 (fun h => by cases h) dX11_addPolicy_80 h (fun u14 h => ?_)
        refine v_aload_n C 1 dX11_addPolicy_83 rfl rfl ?_
        refine v_dup C dX11_addPolicy_84 rfl ?_
        refine v_getI C fdX11_95 dX11_addPolicy_85 h (fun y15 h => ?_)
        refine v_iconst C (1 : Int32) dX11_addPolicy_88 (by decide) ?_
        refine v_iadd C dX11_addPolicy_89 ?_
        refine v_putI C fdX11_95 (fun h => by cases h) dX11_addPolicy_90 h (fun u16 h => ?_)
        refine v_aload_n C 1 dX11_addPolicy_93 rfl rfl ?_
        refine v_getI C fdX11_95 dX11_addPolicy_94 h (fun y17 h => ?_)
        refine v_iconst C (1 : Int32) dX11_addPolicy_97 (by decide) ?_
        refine v_isub C dX11_addPolicy_98 ?_
        exact v_iret C dX11_addPolicy_99 (Prod.mk.inj (Option.some.inj h)).2 (Prod.mk.inj (Option.some.inj h)).1
      · refine v_bipush C (-5 : Int32) dX11_addPolicy_29 (by decide) ?_
        exact v_iret C dX11_addPolicy_31 (Prod.mk.inj (Option.some.inj h)).2 (Prod.mk.inj (Option.some.inj h)).1
    · refine v_iconst C (-1 : Int32) dX11_addPolicy_18 (by decide) ?_
      exact v_iret C dX11_addPolicy_19 (Prod.mk.inj (Option.some.inj h)).2 (Prod.mk.inj (Option.some.inj h)).1
set_option maxRecDepth 100000 in
set_option maxHeartbeats 4000000 in
theorem mX11_isPolicy {l : Launch} {D : UD} {bs : Nat} {a0 : Nat} {x1 : Int32} {u0 : UH} {r : Int32} (h : fX11_isPolicy a0 x1 u0 = some r) : Met l yX11_isPolicy (wz yX11_isPolicy cX11_isPolicy 2 (some .boolean)) rmX11_isPolicy (va_Pc [.ref (bs + a0), .int x1] (uIn D bs u0)) (uQi D bs u0 u0 r) 0 0 (uA bs u0) := by
  refine uMet (by decide) (Nat.le_of_ble_eq_true rfl) ?_
  intro X tw hX C hin
  have C : uCx X D bs tw cX11_isPolicy 2 RX11 (some .boolean) := C
  have hin : X.2.2.2.2.2.2.2.1.name = "isPolicy" := hin
  refine v_L [(0, .ref (bs + a0)), (1, .int x1)] rfl ?_
  unfold fX11_isPolicy at h
  refine v_iload_n C 1 dX11_isPolicy_0 rfl rfl ?_
  refine v_iflt C 16 dX11_isPolicy_1 (by decide) h (fun _ h => ?_) (fun _ h => ?_)
  · refine v_iconst C (0 : Int32) dX11_isPolicy_16 (by decide) ?_
    exact v_zret C dX11_isPolicy_17 rfl (Option.some.inj h) rfl
  · refine v_iload_n C 1 dX11_isPolicy_4 rfl rfl ?_
    refine v_aload_n C 0 dX11_isPolicy_5 rfl rfl ?_
    refine v_getI C fdX11_95 dX11_isPolicy_6 h (fun y1 h => ?_)
    refine v_icmpge C 16 dX11_isPolicy_9 (by decide) h (fun _ h => ?_) (fun _ h => ?_)
    · refine v_iconst C (0 : Int32) dX11_isPolicy_16 (by decide) ?_
      exact v_zret C dX11_isPolicy_17 rfl (Option.some.inj h) rfl
    · refine v_iconst C (1 : Int32) dX11_isPolicy_12 (by decide) ?_
      refine v_goto C 17 dX11_isPolicy_13 (by decide) ?_
      exact v_zret C dX11_isPolicy_17 rfl (Option.some.inj h) rfl
set_option maxRecDepth 100000 in
set_option maxHeartbeats 4000000 in
theorem mX11_setPolicyCube {l : Launch} {D : UD} {bs : Nat} {a0 : Nat} {x1 : Int32} {x2 : Int32} {x3 : Int32} {u0 : UH} {r : Int32} {v : UH} (h : fX11_setPolicyCube a0 x1 x2 x3 u0 = some (r, v)) : Met l yX11_setPolicyCube (wz yX11_setPolicyCube cX11_setPolicyCube 6 (some .int)) rmX11_setPolicyCube (va_Pc [.ref (bs + a0), .int x1, .int x2, .int x3] (uIn D bs u0)) (uQi D bs u0 v r) 0 0 (uA bs u0) := by
  refine uMet (by decide) (Nat.le_of_ble_eq_true rfl) ?_
  intro X tw hX C hin
  have C : uCx X D bs tw cX11_setPolicyCube 6 RX11 (some .int) := C
  have hin : X.2.2.2.2.2.2.2.1.name = "setPolicyCube" := hin
  refine v_L [(0, .ref (bs + a0)), (1, .int x1), (2, .int x2), (3, .int x3)] rfl ?_
  unfold fX11_setPolicyCube at h
  refine v_aload_n C 0 dX11_setPolicyCube_0 rfl rfl ?_
  refine v_iload_n C 1 dX11_setPolicyCube_1 rfl rfl ?_
  obtain ⟨y1, h1, h⟩ := ob_some h
  obtain ⟨hkd, h1⟩ := kd_some h1
  refine v_goi (rn_V C gcX11_308 (RX11, TX11, 12) rfl rfl (by decide) hkd (mX11_isPolicy h1) ⟨rfl, rfl⟩ rfl ⟨Nat.le_of_ble_eq_true rfl, Nat.le_of_ble_eq_true rfl⟩ (rest := []) rfl (Nat.le_of_ble_eq_true rfl) ⟨Nat.le_of_ble_eq_true rfl, Nat.le_of_ble_eq_true rfl⟩ dX11_setPolicyCube_2) ?_
  refine v_ifeq C 20 dX11_setPolicyCube_5 (by decide) h (fun _ h => ?_) (fun _ h => ?_)
  · refine v_bipush C (-3 : Int32) dX11_setPolicyCube_20 (by decide) ?_
    exact v_iret C dX11_setPolicyCube_22 (Prod.mk.inj (Option.some.inj h)).2 (Prod.mk.inj (Option.some.inj h)).1
  · refine v_aload_n C 0 dX11_setPolicyCube_8 rfl rfl ?_
    refine v_getR C fdX11_14 dX11_setPolicyCube_9 h (fun b2 h => ?_)
    refine v_iload_n C 2 dX11_setPolicyCube_12 rfl rfl ?_
    refine v_iload_n C 3 dX11_setPolicyCube_13 rfl rfl ?_
    obtain ⟨y3, h1, h⟩ := ob_some h
    obtain ⟨hkd, h1⟩ := kd_some h1
    refine v_goi (rn_V C gcX11_139 (RX4, TX4, 4) rfl rfl (by decide) hkd (mX4_isCube h1) ⟨rfl, rfl⟩ rfl ⟨Nat.le_of_ble_eq_true rfl, Nat.le_of_ble_eq_true rfl⟩ (rest := []) rfl (Nat.le_of_ble_eq_true rfl) ⟨Nat.le_of_ble_eq_true rfl, Nat.le_of_ble_eq_true rfl⟩ dX11_setPolicyCube_14) ?_
    refine v_ifne C 23 dX11_setPolicyCube_17 (by decide) h (fun _ h => ?_) (fun _ h => ?_)
    · refine v_aload_n C 0 dX11_setPolicyCube_23 rfl rfl ?_
      refine v_getR C fdX11_14 dX11_setPolicyCube_24 h (fun b4 h => ?_)
      obtain ⟨y5, h1, h⟩ := ob_some h
      obtain ⟨hkd, h1⟩ := kd_some h1
      refine v_gol (rn_V C gcX11_76 (RX4, TX4, 4) rfl rfl (by decide) hkd (mX4_allHeaders h1) ⟨rfl, rfl⟩ rfl ⟨Nat.le_of_ble_eq_true rfl, Nat.le_of_ble_eq_true rfl⟩ (rest := []) rfl (Nat.le_of_ble_eq_true rfl) ⟨Nat.le_of_ble_eq_true rfl, Nat.le_of_ble_eq_true rfl⟩ dX11_setPolicyCube_27) ?_
      refine v_iload_n C 2 dX11_setPolicyCube_30 rfl rfl ?_
      refine v_iload_n C 3 dX11_setPolicyCube_31 rfl rfl ?_
      obtain ⟨y6, h1, h⟩ := ob_some h
      refine v_gol (rn_S C gcX11_208 (mX11_cubeHeaders h1) ⟨rfl, rfl⟩ rfl ⟨Nat.le_of_ble_eq_true rfl, Nat.le_of_ble_eq_true rfl⟩ (rest := [.long y5]) rfl (Nat.le_of_ble_eq_true rfl) ⟨Nat.le_of_ble_eq_true rfl, Nat.le_of_ble_eq_true rfl⟩ dX11_setPolicyCube_32) ?_
      refine v_land C dX11_setPolicyCube_35 ?_
      refine v_ltl h (fun y7 h => ?_)
      refine v_lstore C [(4, .long y7), (0, .ref (bs + a0)), (1, .int x1), (2, .int x2), (3, .int x3)] dX11_setPolicyCube_36 (by decide) rfl ?_
      refine v_aload_n C 1 dX11_setPolicyCube_38 rfl rfl ?_
      refine v_getR C fdX11_71 dX11_setPolicyCube_39 h (fun b8 h => ?_)
      refine v_iload_n C 2 dX11_setPolicyCube_42 rfl rfl ?_
      refine v_ldR C 24 _ rfl (by decide) dX11_setPolicyCube_43 h (fun b9 h => ?_)
      refine v_lload C 0 dX11_setPolicyCube_44 rfl ?_
      refine v_putJ C fdX11_305 (fun h => by cases h) dX11_setPolicyCube_46 h (fun u10 h => ?_)
      refine v_lload C 0 dX11_setPolicyCube_49 rfl ?_
      obtain ⟨y11, h1, h⟩ := ob_some h
      refine v_goi (rn_S C gcX11_212 (mJ13_bitCount_95d88 h1) ⟨rfl, rfl⟩ rfl ⟨Nat.le_of_ble_eq_true rfl, Nat.le_of_ble_eq_true rfl⟩ (rest := []) rfl (Nat.le_of_ble_eq_true rfl) ⟨Nat.le_of_ble_eq_true rfl, Nat.le_of_ble_eq_true rfl⟩ dX11_setPolicyCube_51) ?_
      exact v_iret C dX11_setPolicyCube_54 (Prod.mk.inj (Option.some.inj h)).2 (Prod.mk.inj (Option.some.inj h)).1
    · refine v_bipush C (-3 : Int32) dX11_setPolicyCube_20 (by decide) ?_
      exact v_iret C dX11_setPolicyCube_22 (Prod.mk.inj (Option.some.inj h)).2 (Prod.mk.inj (Option.some.inj h)).1
set_option maxRecDepth 100000 in
set_option maxHeartbeats 4000000 in
theorem mX11_against {l : Launch} {D : UD} {bs : Nat} {a0 : Nat} {a1 : Nat} {u0 : UH} {r : Int64} {v : UH} (h : fX11_against a0 a1 u0 = some (r, v)) : Met l yX11_against (wz yX11_against cX11_against 4 (some .long)) rmX11_against (va_Pc [.ref (bs + a0), .ref (bs + a1)] (uIn D bs u0)) (uQl D bs u0 v r) 0 0 (uA bs u0) := by
  refine uMet (by decide) (Nat.le_of_ble_eq_true rfl) ?_
  intro X tw hX C hin
  have C : uCx X D bs tw cX11_against 4 RX11 (some .long) := C
  have hin : X.2.2.2.2.2.2.2.1.name = "against" := hin
  refine v_L [(0, .ref (bs + a0)), (1, .ref (bs + a1))] rfl ?_
  unfold fX11_against at h
  refine v_aload_n C 0 dX11_against_0 rfl rfl ?_
  refine v_getR C fdX11_37 dX11_against_1 h (fun b1 h => ?_)
  refine v_aload_n C 1 dX11_against_4 rfl rfl ?_
  refine v_getI C fdX11_302 dX11_against_5 h (fun y2 h => ?_)
  obtain ⟨u3, h1, h⟩ := ob_some h
  obtain ⟨hkd, h1⟩ := kd_some h1
  refine v_gov (rn_V C gcX11_283 (RX1, TX1, 2) rfl rfl (by decide) hkd (mX1_find h1) ⟨rfl, rfl⟩ rfl ⟨Nat.le_of_ble_eq_true rfl, Nat.le_of_ble_eq_true rfl⟩ (rest := []) rfl (Nat.le_of_ble_eq_true rfl) ⟨Nat.le_of_ble_eq_true rfl, Nat.le_of_ble_eq_true rfl⟩ dX11_against_8) ?_
  refine v_aload_n C 0 dX11_against_11 rfl rfl ?_
  refine v_getR C fdX11_37 dX11_against_12 h (fun b4 h => ?_)
  refine v_getR C fdX11_286 dX11_against_15 h (fun b5 h => ?_)
  refine v_aload_n C 1 dX11_against_18 rfl rfl ?_
  refine v_getI C fdX11_299 dX11_against_19 h (fun y6 h => ?_)
  refine v_ldJ C dX11_against_22 h (fun y7 h => ?_)
  refine v_lstore_n C [(2, .long y7), (0, .ref (bs + a0)), (1, .ref (bs + a1))] dX11_against_23 rfl (by decide) rfl ?_
  refine v_aload_n C 2 dX11_against_24 rfl rfl ?_
  refine v_getJ C fdX11_305 dX11_against_25 h (fun y8 h => ?_)
  refine v_aload_n C 2 dX11_against_28 rfl rfl ?_
  refine v_getI C fdX11_296 dX11_against_29 h (fun y9 h => ?_)
  refine v_ifeq C 43 dX11_against_32 (by decide) h (fun _ h => ?_) (fun _ h => ?_)
  · refine v_lload_n C 0 dX11_against_43 rfl rfl ?_
    refine v_land C dX11_against_44 ?_
    exact v_lret C dX11_against_45 (Prod.mk.inj (Option.some.inj h)).2 (Prod.mk.inj (Option.some.inj h)).1
  · refine v_lload_n C 0 dX11_against_35 rfl rfl ?_
    refine v_ldc2 C (-1 : Int64) tw45 dX11_against_36 ?_
    refine v_lxor C dX11_against_39 ?_
    refine v_goto C 44 dX11_against_40 (by decide) ?_
    refine v_land C dX11_against_44 ?_
    exact v_lret C dX11_against_45 (Prod.mk.inj (Option.some.inj h)).2 (Prod.mk.inj (Option.some.inj h)).1
set_option maxRecDepth 100000 in
set_option maxHeartbeats 4000000 in
theorem mX11_counterexamples {l : Launch} {D : UD} {bs : Nat} {a0 : Nat} {x1 : Int32} {u0 : UH} {r : Int64} {v : UH} (h : fX11_counterexamples a0 x1 u0 = some (r, v)) : Met l yX11_counterexamples (wz yX11_counterexamples cX11_counterexamples 2 (some .long)) rmX11_counterexamples (va_Pc [.ref (bs + a0), .int x1] (uIn D bs u0)) (uQl D bs u0 v r) 0 0 (uA bs u0) := by
  refine uMet (by decide) (Nat.le_of_ble_eq_true rfl) ?_
  intro X tw hX C hin
  have C : uCx X D bs tw cX11_counterexamples 2 RX11 (some .long) := C
  have hin : X.2.2.2.2.2.2.2.1.name = "counterexamples" := hin
  refine v_L [(0, .ref (bs + a0)), (1, .int x1)] rfl ?_
  unfold fX11_counterexamples at h
  refine v_aload_n C 0 dX11_counterexamples_0 rfl rfl ?_
  refine v_iload_n C 1 dX11_counterexamples_1 rfl rfl ?_
  obtain ⟨y1, h1, h⟩ := ob_some h
  obtain ⟨hkd, h1⟩ := kd_some h1
  refine v_goi (rn_V C gcX11_308 (RX11, TX11, 12) rfl rfl (by decide) hkd (mX11_isPolicy h1) ⟨rfl, rfl⟩ rfl ⟨Nat.le_of_ble_eq_true rfl, Nat.le_of_ble_eq_true rfl⟩ (rest := []) rfl (Nat.le_of_ble_eq_true rfl) ⟨Nat.le_of_ble_eq_true rfl, Nat.le_of_ble_eq_true rfl⟩ dX11_counterexamples_2) ?_
  refine v_ifeq C 21 dX11_counterexamples_5 (by decide) h (fun _ h => ?_) (fun _ h => ?_)
  · refine v_ldc2 C (-9223372036854775808 : Int64) tw554 dX11_counterexamples_21 ?_
    exact v_lret C dX11_counterexamples_24 (Prod.mk.inj (Option.some.inj h)).2 (Prod.mk.inj (Option.some.inj h)).1
  · refine v_aload_n C 0 dX11_counterexamples_8 rfl rfl ?_
    refine v_aload_n C 0 dX11_counterexamples_9 rfl rfl ?_
    refine v_getR C fdX11_71 dX11_counterexamples_10 h (fun b2 h => ?_)
    refine v_iload_n C 1 dX11_counterexamples_13 rfl rfl ?_
    refine v_ldR C 24 _ rfl (by decide) dX11_counterexamples_14 h (fun b3 h => ?_)
    obtain ⟨y4, u5, h1, h⟩ := ob2_some h
    obtain ⟨hkd, h1⟩ := kd_some h1
    refine v_gol (rn_V C gcX11_311 (RX11, TX11, 12) rfl rfl (by decide) hkd (mX11_against h1) ⟨rfl, rfl⟩ rfl ⟨Nat.le_of_ble_eq_true rfl, Nat.le_of_ble_eq_true rfl⟩ (rest := []) rfl (Nat.le_of_ble_eq_true rfl) ⟨Nat.le_of_ble_eq_true rfl, Nat.le_of_ble_eq_true rfl⟩ dX11_counterexamples_15) ?_
    refine v_goto C 24 dX11_counterexamples_18 (by decide) ?_
    exact v_lret C dX11_counterexamples_24 (Prod.mk.inj (Option.some.inj h)).2 (Prod.mk.inj (Option.some.inj h)).1
set_option maxRecDepth 100000 in
set_option maxHeartbeats 4000000 in
theorem wX11_violated_B4 {X : UX} {D : UD} {bs tw : Nat} {u0 : UH} {r : Int32} {v : UH} (C : uCx X D bs tw cX11_violated 3 RX11 (some .int)) (hin : X.2.2.2.2.2.2.2.1.name = "violated") {a0 : Nat}  {G : (Int32 × UH) → Prop} {k : Int32 → Int32 → UH → Option (Int32 × UH)} (hk : ∀ (x1 : Int32) (x2 : Int32) (u' : UH) e, k x1 x2 u' = some e → G e → VV X D bs u0 rmX11_violated 3 0 0 (MQ X.2.2.2.2.2.2.1 (uQi D bs u0 v r) X.2.2.2.2.2.1 X.2.2.2.1 0 0 (uA bs u0)) u' 4 [(0, .ref (bs + a0)), (1, .int x1), (2, .int x2)] []) (hex : ∀ (x1 : Int32) (u' : UH), G (x1, u') → VV X D bs u0 rmX11_violated 3 0 0 (MQ X.2.2.2.2.2.2.1 (uQi D bs u0 v r) X.2.2.2.2.2.1 X.2.2.2.1 0 0 (uA bs u0)) u' 39 [(1, .int x1)] [])  : ∀ (x1 : Int32) (x2 : Int32) (u : UH) e, fX11_violated_B4 a0  k x1 x2 u = some e → G e → VV X D bs u0 rmX11_violated 3 0 0 (MQ X.2.2.2.2.2.2.1 (uQi D bs u0 v r) X.2.2.2.2.2.1 X.2.2.2.1 0 0 (uA bs u0)) u 4 [(0, .ref (bs + a0)), (1, .int x1), (2, .int x2)] [] := by
  intro x1 x2 u e h g
  unfold fX11_violated_B4 at h
  refine v_iload_n C 2 dX11_violated_4 rfl rfl ?_
  refine v_aload_n C 0 dX11_violated_5 rfl rfl ?_
  refine v_getI C fdX11_95 dX11_violated_6 h (fun y1 h => ?_)
  refine v_icmpge C 39 dX11_violated_9 (by decide) h (fun _ h => ?_) (fun _ h => ?_)
  · refine v_sub [(1, .int x1)] [1] rfl ?_
    exact hex x1 u ((Option.some.inj h).symm ▸ g)
  · refine v_aload_n C 0 dX11_violated_12 rfl rfl ?_
    refine v_aload_n C 0 dX11_violated_13 rfl rfl ?_
    refine v_getR C fdX11_71 dX11_violated_14 h (fun b2 h => ?_)
    refine v_iload_n C 2 dX11_violated_17 rfl rfl ?_
    refine v_ldR C 24 _ rfl (by decide) dX11_violated_18 h (fun b3 h => ?_)
    obtain ⟨y4, u5, h1, h⟩ := ob2_some h
    obtain ⟨hkd, h1⟩ := kd_some h1
    refine v_gol (rn_V C gcX11_311 (RX11, TX11, 12) rfl rfl (by decide) hkd (mX11_against h1) ⟨rfl, rfl⟩ rfl ⟨Nat.le_of_ble_eq_true rfl, Nat.le_of_ble_eq_true rfl⟩ (rest := []) rfl (Nat.le_of_ble_eq_true rfl) ⟨Nat.le_of_ble_eq_true rfl, Nat.le_of_ble_eq_true rfl⟩ dX11_violated_19) ?_
    refine v_lconst C (0 : Int64) dX11_violated_22 (by decide) ?_
    refine v_lcmpeq C 33 dX11_violated_23 dX11_violated_24 (by decide) h (fun _ h => ?_) (fun _ h => ?_)
    · refine v_iinc C 2 (x2 + (1 : Int32)) [(2, .int (x2 + (1 : Int32))), (0, .ref (bs + a0)), (1, .int x1)] dX11_violated_33 rfl rfl (by decide) rfl ?_
      refine v_goto C 4 dX11_violated_36 (by decide) ?_
      refine v_sub [(0, .ref (bs + a0)), (1, .int x1), (2, .int (x2 + (1 : Int32)))] [1, 2, 0] rfl ?_
      exact hk x1 (x2 + (1 : Int32)) u5 _ h g
    · refine v_iload_n C 1 dX11_violated_27 rfl rfl ?_
      refine v_iconst C (1 : Int32) dX11_violated_28 (by decide) ?_
      refine v_iload_n C 2 dX11_violated_29 rfl rfl ?_
      refine v_ishl C dX11_violated_30 ?_
      refine v_ior C dX11_violated_31 ?_
      refine v_lti h (fun y6 h => ?_)
      refine v_istore_n C [(1, .int y6), (0, .ref (bs + a0)), (2, .int x2)] dX11_violated_32 rfl (by decide) rfl ?_
      refine v_iinc C 2 (x2 + (1 : Int32)) [(2, .int (x2 + (1 : Int32))), (1, .int y6), (0, .ref (bs + a0))] dX11_violated_33 rfl rfl (by decide) rfl ?_
      refine v_goto C 4 dX11_violated_36 (by decide) ?_
      refine v_sub [(0, .ref (bs + a0)), (1, .int y6), (2, .int (x2 + (1 : Int32)))] [2, 1, 0] rfl ?_
      exact hk y6 (x2 + (1 : Int32)) u5 _ h g
set_option maxRecDepth 100000 in
set_option maxHeartbeats 4000000 in
theorem mX11_violated {l : Launch} {D : UD} {bs : Nat} {a0 : Nat} {u0 : UH} {r : Int32} {v : UH} (h : fX11_violated a0 u0 = some (r, v)) : Met l yX11_violated (wz yX11_violated cX11_violated 3 (some .int)) rmX11_violated (va_Pc [.ref (bs + a0)] (uIn D bs u0)) (uQi D bs u0 v r) 0 0 (uA bs u0) := by
  refine uMet (by decide) (Nat.le_of_ble_eq_true rfl) ?_
  intro X tw hX C hin
  have C : uCx X D bs tw cX11_violated 3 RX11 (some .int) := C
  have hin : X.2.2.2.2.2.2.2.1.name = "violated" := hin
  refine v_L [(0, .ref (bs + a0))] rfl ?_
  unfold fX11_violated at h
  refine v_iconst C (0 : Int32) dX11_violated_0 (by decide) ?_
  refine v_istore_n C [(1, .int (0 : Int32)), (0, .ref (bs + a0))] dX11_violated_1 rfl (by decide) rfl ?_
  refine v_iconst C (0 : Int32) dX11_violated_2 (by decide) ?_
  refine v_istore_n C [(2, .int (0 : Int32)), (1, .int (0 : Int32)), (0, .ref (bs + a0))] dX11_violated_3 rfl (by decide) rfl ?_
  refine v_sub [(0, .ref (bs + a0)), (1, .int (0 : Int32)), (2, .int (0 : Int32))] [2, 1, 0] rfl ?_
  refine it3_O (V := fun x1 x2 u' => VV X D bs u0 rmX11_violated 3 0 0 (MQ X.2.2.2.2.2.2.1 (uQi D bs u0 v r) X.2.2.2.2.2.1 X.2.2.2.1 0 0 (uA bs u0)) u' 4 [(0, .ref (bs + a0)), (1, .int x1), (2, .int x2)] []) h (fun k_ hk_ => wX11_violated_B4 C hin hk_ ?_ )
  intro z8 z9 h
  try dsimp only [Sum.elim_inl] at h
  refine v_iload_n C 0 dX11_violated_39 rfl rfl ?_
  exact v_iret C dX11_violated_40 (Prod.mk.inj (Option.some.inj h)).2 (Prod.mk.inj (Option.some.inj h)).1
set_option maxRecDepth 100000 in
set_option maxHeartbeats 4000000 in
theorem mX11_clearPolicies {l : Launch} {D : UD} {bs : Nat} {a0 : Nat} {u0 : UH} {r : Int32} {v : UH} (h : fX11_clearPolicies a0 u0 = some (r, v)) : Met l yX11_clearPolicies (wz yX11_clearPolicies cX11_clearPolicies 2 (some .int)) rmX11_clearPolicies (va_Pc [.ref (bs + a0)] (uIn D bs u0)) (uQi D bs u0 v r) 0 0 (uA bs u0) := by
  refine uMet (by decide) (Nat.le_of_ble_eq_true rfl) ?_
  intro X tw hX C hin
  have C : uCx X D bs tw cX11_clearPolicies 2 RX11 (some .int) := C
  have hin : X.2.2.2.2.2.2.2.1.name = "clearPolicies" := hin
  refine v_L [(0, .ref (bs + a0))] rfl ?_
  unfold fX11_clearPolicies at h
  refine v_aload_n C 0 dX11_clearPolicies_0 rfl rfl ?_
  refine v_getI C fdX11_95 dX11_clearPolicies_1 h (fun y1 h => ?_)
  refine v_istore_n C [(1, .int y1), (0, .ref (bs + a0))] dX11_clearPolicies_4 rfl (by decide) rfl ?_
  refine v_aload_n C 1 dX11_clearPolicies_5 rfl rfl ?_
  refine v_iconst C (0 : Int32) dX11_clearPolicies_6 (by decide) ?_
  refine v_putI C fdX11_95 (fun h => by cases h) dX11_clearPolicies_7 h (fun u2 h => ?_)
  refine v_iload_n C 0 dX11_clearPolicies_10 rfl rfl ?_
  exact v_iret C dX11_clearPolicies_11 (Prod.mk.inj (Option.some.inj h)).2 (Prod.mk.inj (Option.some.inj h)).1
set_option maxRecDepth 100000 in
set_option maxHeartbeats 4000000 in
theorem mX11_type {l : Launch} {D : UD} {bs : Nat} {a0 : Nat} {x1 : Int32} {u0 : UH} {r : Int32} {v : UH} (h : fX11_type a0 x1 u0 = some (r, v)) : Met l yX11_type (wz yX11_type cX11_type 2 (some .int)) rmX11_type (va_Pc [.ref (bs + a0), .int x1] (uIn D bs u0)) (uQi D bs u0 v r) 0 0 (uA bs u0) := by
  refine uMet (by decide) (Nat.le_of_ble_eq_true rfl) ?_
  intro X tw hX C hin
  have C : uCx X D bs tw cX11_type 2 RX11 (some .int) := C
  have hin : X.2.2.2.2.2.2.2.1.name = "type" := hin
  refine v_L [(0, .ref (bs + a0)), (1, .int x1)] rfl ?_
  unfold fX11_type at h
  refine v_aload_n C 0 dX11_type_0 rfl rfl ?_
  refine v_getR C fdX11_58 dX11_type_1 h (fun b1 h => ?_)
  refine v_getI C fdX11_315 dX11_type_4 h (fun y2 h => ?_)
  refine v_bipush C (40 : Int32) dX11_type_7 (by decide) ?_
  refine v_icmplt C 15 dX11_type_9 (by decide) h (fun _ h => ?_) (fun _ h => ?_)
  · refine v_aload_n C 0 dX11_type_15 rfl rfl ?_
    refine v_getR C fdX11_58 dX11_type_16 h (fun b3 h => ?_)
    refine v_getR C fdX11_318 dX11_type_19 h (fun b4 h => ?_)
    refine v_aload_n C 0 dX11_type_22 rfl rfl ?_
    refine v_getR C fdX11_58 dX11_type_23 h (fun b5 h => ?_)
    refine v_getI C fdX11_315 dX11_type_26 h (fun y6 h => ?_)
    refine v_iload_n C 1 dX11_type_29 rfl rfl ?_
    refine v_stC C dX11_type_30 h (fun u7 h => ?_)
    refine v_aload_n C 0 dX11_type_31 rfl rfl ?_
    refine v_getR C fdX11_58 dX11_type_32 h (fun b8 h => ?_)
    refine v_dup C dX11_type_35 rfl ?_
    refine v_getI C fdX11_315 dX11_type_36 h (fun y9 h => ?_)
    refine v_iconst C (1 : Int32) dX11_type_39 (by decide) ?_
    refine v_iadd C dX11_type_40 ?_
    refine v_putI C fdX11_315 (fun h => by cases h) dX11_type_41 h (fun u10 h => ?_)
    refine v_aload_n C 0 dX11_type_44 rfl rfl ?_
    refine v_getR C fdX11_58 dX11_type_45 h (fun b11 h => ?_)
    refine v_getI C fdX11_315 dX11_type_48 h (fun y12 h => ?_)
    exact v_iret C dX11_type_51 (Prod.mk.inj (Option.some.inj h)).2 (Prod.mk.inj (Option.some.inj h)).1
  · refine v_bipush C (-5 : Int32) dX11_type_12 (by decide) ?_
    exact v_iret C dX11_type_14 (Prod.mk.inj (Option.some.inj h)).2 (Prod.mk.inj (Option.some.inj h)).1
set_option maxRecDepth 100000 in
set_option maxHeartbeats 4000000 in
theorem mX11_clearText {l : Launch} {D : UD} {bs : Nat} {a0 : Nat} {u0 : UH} {r : Int32} {v : UH} (h : fX11_clearText a0 u0 = some (r, v)) : Met l yX11_clearText (wz yX11_clearText cX11_clearText 2 (some .int)) rmX11_clearText (va_Pc [.ref (bs + a0)] (uIn D bs u0)) (uQi D bs u0 v r) 0 0 (uA bs u0) := by
  refine uMet (by decide) (Nat.le_of_ble_eq_true rfl) ?_
  intro X tw hX C hin
  have C : uCx X D bs tw cX11_clearText 2 RX11 (some .int) := C
  have hin : X.2.2.2.2.2.2.2.1.name = "clearText" := hin
  refine v_L [(0, .ref (bs + a0))] rfl ?_
  unfold fX11_clearText at h
  refine v_aload_n C 0 dX11_clearText_0 rfl rfl ?_
  refine v_getR C fdX11_58 dX11_clearText_1 h (fun b1 h => ?_)
  refine v_getI C fdX11_315 dX11_clearText_4 h (fun y2 h => ?_)
  refine v_istore_n C [(1, .int y2), (0, .ref (bs + a0))] dX11_clearText_7 rfl (by decide) rfl ?_
  refine v_aload_n C 1 dX11_clearText_8 rfl rfl ?_
  refine v_getR C fdX11_58 dX11_clearText_9 h (fun b3 h => ?_)
  refine v_iconst C (0 : Int32) dX11_clearText_12 (by decide) ?_
  refine v_putI C fdX11_315 (fun h => by cases h) dX11_clearText_13 h (fun u4 h => ?_)
  refine v_iload_n C 0 dX11_clearText_16 rfl rfl ?_
  exact v_iret C dX11_clearText_17 (Prod.mk.inj (Option.some.inj h)).2 (Prod.mk.inj (Option.some.inj h)).1
set_option maxRecDepth 100000 in
set_option maxHeartbeats 4000000 in
theorem mX9_accepts {l : Launch} {D : UD} {bs : Nat} {a0 : Nat} {x1 : Int32} {u0 : UH} {r : Int32} {v : UH} (h : fX9_accepts a0 x1 u0 = some (r, v)) : Met l yX9_accepts (wz yX9_accepts cX9_accepts 2 (some .boolean)) rmX9_accepts (va_Pc [.ref (bs + a0), .int x1] (uIn D bs u0)) (uQi D bs u0 v r) 0 0 (uA bs u0) := by
  refine uMet (by decide) (Nat.le_of_ble_eq_true rfl) ?_
  intro X tw hX C hin
  have C : uCx X D bs tw cX9_accepts 2 RX9 (some .boolean) := C
  have hin : X.2.2.2.2.2.2.2.1.name = "accepts" := hin
  refine v_L [(0, .ref (bs + a0)), (1, .int x1)] rfl ?_
  unfold fX9_accepts at h
  refine v_aload_n C 0 dX9_accepts_0 rfl rfl ?_
  refine v_getI C fdX9_15 dX9_accepts_1 h (fun y1 h => ?_)
  refine v_aload_n C 0 dX9_accepts_4 rfl rfl ?_
  refine v_getI C fdX9_40 dX9_accepts_5 h (fun y2 h => ?_)
  refine v_icmpge C 24 dX9_accepts_8 (by decide) h (fun _ h => ?_) (fun _ h => ?_)
  · refine v_iconst C (0 : Int32) dX9_accepts_24 (by decide) ?_
    exact v_zret C dX9_accepts_25 (Prod.mk.inj (Option.some.inj h)).2 (Prod.mk.inj (Option.some.inj h)).1 rfl
  · refine v_aload_n C 0 dX9_accepts_11 rfl rfl ?_
    refine v_getR C fdX9_9 dX9_accepts_12 h (fun b3 h => ?_)
    refine v_aload_n C 0 dX9_accepts_15 rfl rfl ?_
    refine v_getI C fdX9_15 dX9_accepts_16 h (fun y4 h => ?_)
    refine v_ldC C dX9_accepts_19 h (fun y5 h => ?_)
    refine v_iload_n C 1 dX9_accepts_20 rfl rfl ?_
    refine v_icmpeq C 26 dX9_accepts_21 (by decide) h (fun _ h => ?_) (fun _ h => ?_)
    · refine v_aload_n C 0 dX9_accepts_26 rfl rfl ?_
      refine v_dup C dX9_accepts_27 rfl ?_
      refine v_getI C fdX9_15 dX9_accepts_28 h (fun y6 h => ?_)
      refine v_iconst C (1 : Int32) dX9_accepts_31 (by decide) ?_
      refine v_iadd C dX9_accepts_32 ?_
      refine v_putI C fdX9_15 (fun h => by cases h) dX9_accepts_33 h (fun u7 h => ?_)
      refine v_iconst C (1 : Int32) dX9_accepts_36 (by decide) ?_
      exact v_zret C dX9_accepts_37 (Prod.mk.inj (Option.some.inj h)).2 (Prod.mk.inj (Option.some.inj h)).1 rfl
    · refine v_iconst C (0 : Int32) dX9_accepts_24 (by decide) ?_
      exact v_zret C dX9_accepts_25 (Prod.mk.inj (Option.some.inj h)).2 (Prod.mk.inj (Option.some.inj h)).1 rfl
set_option maxRecDepth 100000 in
set_option maxHeartbeats 4000000 in
theorem wX9_readDigits_B4 {X : UX} {D : UD} {bs tw : Nat} {u0 : UH} {r : Int32} {v : UH} (C : uCx X D bs tw cX9_readDigits 3 RX9 (some .int)) (hin : X.2.2.2.2.2.2.2.1.name = "readDigits") {a0 : Nat}  {G : (Int32 × UH) → Prop} {k : Int32 → Int32 → UH → Option (Int32 × UH)} (hk : ∀ (x1 : Int32) (x2 : Int32) (u' : UH) e, k x1 x2 u' = some e → G e → VV X D bs u0 rmX9_readDigits 3 0 0 (MQ X.2.2.2.2.2.2.1 (uQi D bs u0 v r) X.2.2.2.2.2.1 X.2.2.2.1 0 0 (uA bs u0)) u' 4 [(0, .ref (bs + a0)), (1, .int x1), (2, .int x2)] []) (hex : ∀ (x1 : Int32) (u' : UH), G (x1, u') → VV X D bs u0 rmX9_readDigits 3 0 0 (MQ X.2.2.2.2.2.2.1 (uQi D bs u0 v r) X.2.2.2.2.2.1 X.2.2.2.1 0 0 (uA bs u0)) u' 33 [(1, .int x1)] [])  : ∀ (x1 : Int32) (x2 : Int32) (u : UH) e, fX9_readDigits_B4 a0  k x1 x2 u = some e → G e → VV X D bs u0 rmX9_readDigits 3 0 0 (MQ X.2.2.2.2.2.2.1 (uQi D bs u0 v r) X.2.2.2.2.2.1 X.2.2.2.1 0 0 (uA bs u0)) u 4 [(0, .ref (bs + a0)), (1, .int x1), (2, .int x2)] [] := by
  intro x1 x2 u e h g
  unfold fX9_readDigits_B4 at h
  refine v_iload_n C 2 dX9_readDigits_4 rfl rfl ?_
  refine v_iconst C (4 : Int32) dX9_readDigits_5 (by decide) ?_
  refine v_icmpge C 33 dX9_readDigits_6 (by decide) h (fun _ h => ?_) (fun _ h => ?_)
  · refine v_sub [(1, .int x1)] [1] rfl ?_
    exact hex x1 u ((Option.some.inj h).symm ▸ g)
  · refine v_aload_n C 0 dX9_readDigits_9 rfl rfl ?_
    refine v_bipush C (48 : Int32) dX9_readDigits_10 (by decide) ?_
    refine v_iload_n C 2 dX9_readDigits_12 rfl rfl ?_
    refine v_iadd C dX9_readDigits_13 ?_
    refine v_i2c C dX9_readDigits_14 ?_
    obtain ⟨y1, u2, h1, h⟩ := ob2_some h
    obtain ⟨hkd, h1⟩ := kd_some h1
    refine v_goi (rn_V C gcX9_32 (RX9, TX9, 9) rfl rfl (by decide) hkd (mX9_accepts h1) ⟨rfl, rfl⟩ rfl ⟨Nat.le_of_ble_eq_true rfl, Nat.le_of_ble_eq_true rfl⟩ (rest := []) rfl (Nat.le_of_ble_eq_true rfl) ⟨Nat.le_of_ble_eq_true rfl, Nat.le_of_ble_eq_true rfl⟩ dX9_readDigits_15) ?_
    refine v_ifeq C 27 dX9_readDigits_18 (by decide) h (fun _ h => ?_) (fun _ h => ?_)
    · refine v_iinc C 2 (x2 + (1 : Int32)) [(2, .int (x2 + (1 : Int32))), (0, .ref (bs + a0)), (1, .int x1)] dX9_readDigits_27 rfl rfl (by decide) rfl ?_
      refine v_goto C 4 dX9_readDigits_30 (by decide) ?_
      refine v_sub [(0, .ref (bs + a0)), (1, .int x1), (2, .int (x2 + (1 : Int32)))] [1, 2, 0] rfl ?_
      exact hk x1 (x2 + (1 : Int32)) u2 _ h g
    · refine v_iload_n C 1 dX9_readDigits_21 rfl rfl ?_
      refine v_iconst C (1 : Int32) dX9_readDigits_22 (by decide) ?_
      refine v_iload_n C 2 dX9_readDigits_23 rfl rfl ?_
      refine v_ishl C dX9_readDigits_24 ?_
      refine v_ior C dX9_readDigits_25 ?_
      refine v_lti h (fun y3 h => ?_)
      refine v_istore_n C [(1, .int y3), (0, .ref (bs + a0)), (2, .int x2)] dX9_readDigits_26 rfl (by decide) rfl ?_
      refine v_iinc C 2 (x2 + (1 : Int32)) [(2, .int (x2 + (1 : Int32))), (1, .int y3), (0, .ref (bs + a0))] dX9_readDigits_27 rfl rfl (by decide) rfl ?_
      refine v_goto C 4 dX9_readDigits_30 (by decide) ?_
      refine v_sub [(0, .ref (bs + a0)), (1, .int y3), (2, .int (x2 + (1 : Int32)))] [2, 1, 0] rfl ?_
      exact hk y3 (x2 + (1 : Int32)) u2 _ h g
set_option maxRecDepth 100000 in
set_option maxHeartbeats 4000000 in
theorem mX9_readDigits {l : Launch} {D : UD} {bs : Nat} {a0 : Nat} {u0 : UH} {r : Int32} {v : UH} (h : fX9_readDigits a0 u0 = some (r, v)) : Met l yX9_readDigits (wz yX9_readDigits cX9_readDigits 3 (some .int)) rmX9_readDigits (va_Pc [.ref (bs + a0)] (uIn D bs u0)) (uQi D bs u0 v r) 0 0 (uA bs u0) := by
  refine uMet (by decide) (Nat.le_of_ble_eq_true rfl) ?_
  intro X tw hX C hin
  have C : uCx X D bs tw cX9_readDigits 3 RX9 (some .int) := C
  have hin : X.2.2.2.2.2.2.2.1.name = "readDigits" := hin
  refine v_L [(0, .ref (bs + a0))] rfl ?_
  unfold fX9_readDigits at h
  refine v_iconst C (0 : Int32) dX9_readDigits_0 (by decide) ?_
  refine v_istore_n C [(1, .int (0 : Int32)), (0, .ref (bs + a0))] dX9_readDigits_1 rfl (by decide) rfl ?_
  refine v_iconst C (0 : Int32) dX9_readDigits_2 (by decide) ?_
  refine v_istore_n C [(2, .int (0 : Int32)), (1, .int (0 : Int32)), (0, .ref (bs + a0))] dX9_readDigits_3 rfl (by decide) rfl ?_
  refine v_sub [(0, .ref (bs + a0)), (1, .int (0 : Int32)), (2, .int (0 : Int32))] [2, 1, 0] rfl ?_
  refine it3_O (V := fun x1 x2 u' => VV X D bs u0 rmX9_readDigits 3 0 0 (MQ X.2.2.2.2.2.2.1 (uQi D bs u0 v r) X.2.2.2.2.2.1 X.2.2.2.1 0 0 (uA bs u0)) u' 4 [(0, .ref (bs + a0)), (1, .int x1), (2, .int x2)] []) h (fun k_ hk_ => wX9_readDigits_B4 C hin hk_ ?_ )
  intro z5 z6 h
  try dsimp only [Sum.elim_inl] at h
  refine v_iload_n C 0 dX9_readDigits_33 rfl rfl ?_
  exact v_iret C dX9_readDigits_34 (Prod.mk.inj (Option.some.inj h)).2 (Prod.mk.inj (Option.some.inj h)).1
set_option maxRecDepth 100000 in
set_option maxHeartbeats 4000000 in
theorem wX9_readsPorts_19 {X : UX} {D : UD} {bs tw : Nat} {u0 : UH} {r : Int32} {v : UH} (C : uCx X D bs tw cX9_readsPorts 1 RX9 (some .boolean)) (hin : X.2.2.2.2.2.2.2.1.name = "readsPorts") {a0 : Nat} {s0 : Int32} {s1 : Nat} {u : UH} (h : fX9_readsPorts_19 a0 s0 s1 u = some (r, v)) : VV X D bs u0 rmX9_readsPorts 1 0 0 (MQ X.2.2.2.2.2.2.1 (uQi D bs u0 v r) X.2.2.2.2.2.1 X.2.2.2.1 0 0 (uA bs u0)) u 19 [(0, .ref (bs + a0))] [.int s0, .ref (bs + s1)] := by
  unfold fX9_readsPorts_19 at h
  refine v_putI C fdX9_51 (fun h => by cases h) dX9_readsPorts_19 h (fun u5 h => ?_)
  refine v_aload_n C 0 dX9_readsPorts_22 rfl rfl ?_
  refine v_getI C fdX9_51 dX9_readsPorts_23 h (fun y6 h => ?_)
  refine v_ifeq C 33 dX9_readsPorts_26 (by decide) h (fun _ h => ?_) (fun _ h => ?_)
  · refine v_iconst C (0 : Int32) dX9_readsPorts_33 (by decide) ?_
    exact v_zret C dX9_readsPorts_34 (Prod.mk.inj (Option.some.inj h)).2 (Prod.mk.inj (Option.some.inj h)).1 rfl
  · refine v_iconst C (1 : Int32) dX9_readsPorts_29 (by decide) ?_
    refine v_goto C 34 dX9_readsPorts_30 (by decide) ?_
    exact v_zret C dX9_readsPorts_34 (Prod.mk.inj (Option.some.inj h)).2 (Prod.mk.inj (Option.some.inj h)).1 rfl
set_option maxRecDepth 100000 in
set_option maxHeartbeats 4000000 in
theorem mX9_readsPorts {l : Launch} {D : UD} {bs : Nat} {a0 : Nat} {u0 : UH} {r : Int32} {v : UH} (h : fX9_readsPorts a0 u0 = some (r, v)) : Met l yX9_readsPorts (wz yX9_readsPorts cX9_readsPorts 1 (some .boolean)) rmX9_readsPorts (va_Pc [.ref (bs + a0)] (uIn D bs u0)) (uQi D bs u0 v r) 0 0 (uA bs u0) := by
  refine uMet (by decide) (Nat.le_of_ble_eq_true rfl) ?_
  intro X tw hX C hin
  have C : uCx X D bs tw cX9_readsPorts 1 RX9 (some .boolean) := C
  have hin : X.2.2.2.2.2.2.2.1.name = "readsPorts" := hin
  refine v_L [(0, .ref (bs + a0))] rfl ?_
  unfold fX9_readsPorts at h
  refine v_aload_n C 0 dX9_readsPorts_0 rfl rfl ?_
  refine v_aload_n C 0 dX9_readsPorts_1 rfl rfl ?_
  refine v_bipush C (42 : Int32) dX9_readsPorts_2 (by decide) ?_
  obtain ⟨y1, u2, h1, h⟩ := ob2_some h
  obtain ⟨hkd, h1⟩ := kd_some h1
  refine v_goi (rn_V C gcX9_32 (RX9, TX9, 9) rfl rfl (by decide) hkd (mX9_accepts h1) ⟨rfl, rfl⟩ rfl ⟨Nat.le_of_ble_eq_true rfl, Nat.le_of_ble_eq_true rfl⟩ (rest := [.ref (bs + a0)]) rfl (Nat.le_of_ble_eq_true rfl) ⟨Nat.le_of_ble_eq_true rfl, Nat.le_of_ble_eq_true rfl⟩ dX9_readsPorts_4) ?_
  refine v_ifeq C 15 dX9_readsPorts_7 (by decide) h (fun _ h => ?_) (fun _ h => ?_)
  · refine v_aload_n C 0 dX9_readsPorts_15 rfl rfl ?_
    obtain ⟨y3, u4, h1, h⟩ := ob2_some h
    obtain ⟨hkd, h1⟩ := kd_some h1
    refine v_goi (rn_V C gcX9_63 (RX9, TX9, 9) rfl rfl (by decide) hkd (mX9_readDigits h1) ⟨rfl, rfl⟩ rfl ⟨Nat.le_of_ble_eq_true rfl, Nat.le_of_ble_eq_true rfl⟩ (rest := [.ref (bs + a0)]) rfl (Nat.le_of_ble_eq_true rfl) ⟨Nat.le_of_ble_eq_true rfl, Nat.le_of_ble_eq_true rfl⟩ dX9_readsPorts_16) ?_
    refine v_sub [(0, .ref (bs + a0))] [0] rfl ?_
    exact wX9_readsPorts_19 C hin h
  · refine v_bipush C (15 : Int32) dX9_readsPorts_10 (by decide) ?_
    refine v_goto C 19 dX9_readsPorts_12 (by decide) ?_
    refine v_sub [(0, .ref (bs + a0))] [0] rfl ?_
    exact wX9_readsPorts_19 C hin h
set_option maxRecDepth 100000 in
set_option maxHeartbeats 4000000 in
theorem wX9_readsPattern_B14 {X : UX} {D : UD} {bs tw : Nat} {u0 : UH} {r : Int32} {v : UH} (C : uCx X D bs tw cX9_readsPattern 3 RX9 (some .boolean)) (hin : X.2.2.2.2.2.2.2.1.name = "readsPattern") {a0 : Nat}  {G : (UH ⊕ (Int32 × UH)) → Prop} {k : Int32 → UH → Option (UH ⊕ (Int32 × UH))} (hk : ∀ (x2 : Int32) (u' : UH) e, k x2 u' = some e → G e → VV X D bs u0 rmX9_readsPattern 3 0 0 (MQ X.2.2.2.2.2.2.1 (uQi D bs u0 v r) X.2.2.2.2.2.1 X.2.2.2.1 0 0 (uA bs u0)) u' 14 [(0, .ref (bs + a0)), (2, .int x2)] []) (hex : ∀  (u' : UH), G (Sum.inl u') → VV X D bs u0 rmX9_readsPattern 3 0 0 (MQ X.2.2.2.2.2.2.1 (uQi D bs u0 v r) X.2.2.2.2.2.1 X.2.2.2.1 0 0 (uA bs u0)) u' 95 [] []) (hret : ∀ x, G (Sum.inr x) → x = (r, v)) : ∀ (x2 : Int32) (u : UH) e, fX9_readsPattern_B14 a0  k x2 u = some e → G e → VV X D bs u0 rmX9_readsPattern 3 0 0 (MQ X.2.2.2.2.2.2.1 (uQi D bs u0 v r) X.2.2.2.2.2.1 X.2.2.2.1 0 0 (uA bs u0)) u 14 [(0, .ref (bs + a0)), (2, .int x2)] [] := by
  intro x2 u e h g
  unfold fX9_readsPattern_B14 at h
  refine v_iload_n C 1 dX9_readsPattern_14 rfl rfl ?_
  refine v_iflt C 95 dX9_readsPattern_15 (by decide) h (fun _ h => ?_) (fun _ h => ?_)
  · refine v_sub [] [] rfl ?_
    exact hex u ((Option.some.inj h).symm ▸ g)
  · refine v_aload_n C 0 dX9_readsPattern_18 rfl rfl ?_
    refine v_bipush C (49 : Int32) dX9_readsPattern_19 (by decide) ?_
    obtain ⟨y4, u5, h1, h⟩ := ob2_some h
    obtain ⟨hkd, h1⟩ := kd_some h1
    refine v_goi (rn_V C gcX9_32 (RX9, TX9, 9) rfl rfl (by decide) hkd (mX9_accepts h1) ⟨rfl, rfl⟩ rfl ⟨Nat.le_of_ble_eq_true rfl, Nat.le_of_ble_eq_true rfl⟩ (rest := []) rfl (Nat.le_of_ble_eq_true rfl) ⟨Nat.le_of_ble_eq_true rfl, Nat.le_of_ble_eq_true rfl⟩ dX9_readsPattern_21) ?_
    refine v_ifeq C 54 dX9_readsPattern_24 (by decide) h (fun _ h => ?_) (fun _ h => ?_)
    · refine v_aload_n C 0 dX9_readsPattern_54 rfl rfl ?_
      refine v_bipush C (48 : Int32) dX9_readsPattern_55 (by decide) ?_
      obtain ⟨y6, u7, h1, h⟩ := ob2_some h
      obtain ⟨hkd, h1⟩ := kd_some h1
      refine v_goi (rn_V C gcX9_32 (RX9, TX9, 9) rfl rfl (by decide) hkd (mX9_accepts h1) ⟨rfl, rfl⟩ rfl ⟨Nat.le_of_ble_eq_true rfl, Nat.le_of_ble_eq_true rfl⟩ (rest := []) rfl (Nat.le_of_ble_eq_true rfl) ⟨Nat.le_of_ble_eq_true rfl, Nat.le_of_ble_eq_true rfl⟩ dX9_readsPattern_57) ?_
      refine v_ifeq C 78 dX9_readsPattern_60 (by decide) h (fun _ h => ?_) (fun _ h => ?_)
      · refine v_aload_n C 0 dX9_readsPattern_78 rfl rfl ?_
        refine v_bipush C (42 : Int32) dX9_readsPattern_79 (by decide) ?_
        obtain ⟨y8, u9, h1, h⟩ := ob2_some h
        obtain ⟨hkd, h1⟩ := kd_some h1
        refine v_goi (rn_V C gcX9_32 (RX9, TX9, 9) rfl rfl (by decide) hkd (mX9_accepts h1) ⟨rfl, rfl⟩ rfl ⟨Nat.le_of_ble_eq_true rfl, Nat.le_of_ble_eq_true rfl⟩ (rest := []) rfl (Nat.le_of_ble_eq_true rfl) ⟨Nat.le_of_ble_eq_true rfl, Nat.le_of_ble_eq_true rfl⟩ dX9_readsPattern_81) ?_
        refine v_ifne C 89 dX9_readsPattern_84 (by decide) h (fun _ h => ?_) (fun _ h => ?_)
        · refine v_iinc C 1 (x2 + (-1 : Int32)) [(2, .int (x2 + (-1 : Int32))), (0, .ref (bs + a0))] dX9_readsPattern_89 rfl rfl (by decide) rfl ?_
          refine v_goto C 14 dX9_readsPattern_92 (by decide) ?_
          refine v_sub [(0, .ref (bs + a0)), (2, .int (x2 + (-1 : Int32)))] [1, 0] rfl ?_
          exact hk (x2 + (-1 : Int32)) u9 _ h g
        · refine v_iconst C (0 : Int32) dX9_readsPattern_87 (by decide) ?_
          have h := hret ((0 : Int32), u9) ((Option.some.inj h).symm ▸ g)
          exact v_zret C dX9_readsPattern_88 (Prod.mk.inj h).2 (Prod.mk.inj h).1 rfl
      · refine v_aload_n C 0 dX9_readsPattern_63 rfl rfl ?_
        refine v_dup C dX9_readsPattern_64 rfl ?_
        refine v_getI C fdX9_54 dX9_readsPattern_65 h (fun y10 h => ?_)
        refine v_iconst C (1 : Int32) dX9_readsPattern_68 (by decide) ?_
        refine v_iload_n C 1 dX9_readsPattern_69 rfl rfl ?_
        refine v_ishl C dX9_readsPattern_70 ?_
        refine v_ior C dX9_readsPattern_71 ?_
        refine v_putI C fdX9_54 (fun h => by cases h) dX9_readsPattern_72 h (fun u11 h => ?_)
        refine v_goto C 89 dX9_readsPattern_75 (by decide) ?_
        refine v_iinc C 1 (x2 + (-1 : Int32)) [(2, .int (x2 + (-1 : Int32))), (0, .ref (bs + a0))] dX9_readsPattern_89 rfl rfl (by decide) rfl ?_
        refine v_goto C 14 dX9_readsPattern_92 (by decide) ?_
        refine v_sub [(0, .ref (bs + a0)), (2, .int (x2 + (-1 : Int32)))] [1, 0] rfl ?_
        exact hk (x2 + (-1 : Int32)) u11 _ h g
    · refine v_aload_n C 0 dX9_readsPattern_27 rfl rfl ?_
      refine v_dup C dX9_readsPattern_28 rfl ?_
      refine v_getI C fdX9_54 dX9_readsPattern_29 h (fun y12 h => ?_)
      refine v_iconst C (1 : Int32) dX9_readsPattern_32 (by decide) ?_
      refine v_iload_n C 1 dX9_readsPattern_33 rfl rfl ?_
      refine v_ishl C dX9_readsPattern_34 ?_
      refine v_ior C dX9_readsPattern_35 ?_
      refine v_putI C fdX9_54 (fun h => by cases h) dX9_readsPattern_36 h (fun u13 h => ?_)
      refine v_aload_n C 0 dX9_readsPattern_39 rfl rfl ?_
      refine v_dup C dX9_readsPattern_40 rfl ?_
      refine v_getI C fdX9_57 dX9_readsPattern_41 h (fun y14 h => ?_)
      refine v_iconst C (1 : Int32) dX9_readsPattern_44 (by decide) ?_
      refine v_iload_n C 1 dX9_readsPattern_45 rfl rfl ?_
      refine v_ishl C dX9_readsPattern_46 ?_
      refine v_ior C dX9_readsPattern_47 ?_
      refine v_putI C fdX9_57 (fun h => by cases h) dX9_readsPattern_48 h (fun u15 h => ?_)
      refine v_goto C 89 dX9_readsPattern_51 (by decide) ?_
      refine v_iinc C 1 (x2 + (-1 : Int32)) [(2, .int (x2 + (-1 : Int32))), (0, .ref (bs + a0))] dX9_readsPattern_89 rfl rfl (by decide) rfl ?_
      refine v_goto C 14 dX9_readsPattern_92 (by decide) ?_
      refine v_sub [(0, .ref (bs + a0)), (2, .int (x2 + (-1 : Int32)))] [1, 0] rfl ?_
      exact hk (x2 + (-1 : Int32)) u15 _ h g
set_option maxRecDepth 100000 in
set_option maxHeartbeats 4000000 in
theorem mX9_readsPattern {l : Launch} {D : UD} {bs : Nat} {a0 : Nat} {x1 : Int32} {u0 : UH} {r : Int32} {v : UH} (h : fX9_readsPattern a0 x1 u0 = some (r, v)) : Met l yX9_readsPattern (wz yX9_readsPattern cX9_readsPattern 3 (some .boolean)) rmX9_readsPattern (va_Pc [.ref (bs + a0), .int x1] (uIn D bs u0)) (uQi D bs u0 v r) 0 0 (uA bs u0) := by
  refine uMet (by decide) (Nat.le_of_ble_eq_true rfl) ?_
  intro X tw hX C hin
  have C : uCx X D bs tw cX9_readsPattern 3 RX9 (some .boolean) := C
  have hin : X.2.2.2.2.2.2.2.1.name = "readsPattern" := hin
  refine v_L [(0, .ref (bs + a0)), (1, .int x1)] rfl ?_
  unfold fX9_readsPattern at h
  refine v_aload_n C 0 dX9_readsPattern_0 rfl rfl ?_
  refine v_iconst C (0 : Int32) dX9_readsPattern_1 (by decide) ?_
  refine v_putI C fdX9_54 (fun h => by cases h) dX9_readsPattern_2 h (fun u1 h => ?_)
  refine v_aload_n C 0 dX9_readsPattern_5 rfl rfl ?_
  refine v_iconst C (0 : Int32) dX9_readsPattern_6 (by decide) ?_
  refine v_putI C fdX9_57 (fun h => by cases h) dX9_readsPattern_7 h (fun u2 h => ?_)
  refine v_iload_n C 1 dX9_readsPattern_10 rfl rfl ?_
  refine v_iconst C (1 : Int32) dX9_readsPattern_11 (by decide) ?_
  refine v_isub C dX9_readsPattern_12 ?_
  refine v_lti h (fun y3 h => ?_)
  refine v_istore_n C [(2, .int y3), (0, .ref (bs + a0)), (1, .int x1)] dX9_readsPattern_13 rfl (by decide) rfl ?_
  refine v_sub [(0, .ref (bs + a0)), (2, .int y3)] [1, 0] rfl ?_
  refine it2_S (V := fun x2 u' => VV X D bs u0 rmX9_readsPattern 3 0 0 (MQ X.2.2.2.2.2.2.1 (uQi D bs u0 v r) X.2.2.2.2.2.1 X.2.2.2.1 0 0 (uA bs u0)) u' 14 [(0, .ref (bs + a0)), (2, .int x2)] []) h (fun k_ hk_ => wX9_readsPattern_B14 C hin hk_ ?_ (fun x hx => Option.some.inj (show some x = some _ from hx)))
  intro z17 h
  try dsimp only [Sum.elim_inl] at h
  refine v_iconst C (1 : Int32) dX9_readsPattern_95 (by decide) ?_
  exact v_zret C dX9_readsPattern_96 (Prod.mk.inj (Option.some.inj h)).2 (Prod.mk.inj (Option.some.inj h)).1 rfl
set_option maxRecDepth 100000 in
set_option maxHeartbeats 4000000 in
theorem mX9_readsOutputs {l : Launch} {D : UD} {bs : Nat} {a0 : Nat} {u0 : UH} {r : Int32} {v : UH} (h : fX9_readsOutputs a0 u0 = some (r, v)) : Met l yX9_readsOutputs (wz yX9_readsOutputs cX9_readsOutputs 1 (some .boolean)) rmX9_readsOutputs (va_Pc [.ref (bs + a0)] (uIn D bs u0)) (uQi D bs u0 v r) 0 0 (uA bs u0) := by
  refine uMet (by decide) (Nat.le_of_ble_eq_true rfl) ?_
  intro X tw hX C hin
  have C : uCx X D bs tw cX9_readsOutputs 1 RX9 (some .boolean) := C
  have hin : X.2.2.2.2.2.2.2.1.name = "readsOutputs" := hin
  refine v_L [(0, .ref (bs + a0))] rfl ?_
  unfold fX9_readsOutputs at h
  refine v_aload_n C 0 dX9_readsOutputs_0 rfl rfl ?_
  refine v_aload_n C 0 dX9_readsOutputs_1 rfl rfl ?_
  obtain ⟨y1, u2, h1, h⟩ := ob2_some h
  obtain ⟨hkd, h1⟩ := kd_some h1
  refine v_goi (rn_V C gcX9_63 (RX9, TX9, 9) rfl rfl (by decide) hkd (mX9_readDigits h1) ⟨rfl, rfl⟩ rfl ⟨Nat.le_of_ble_eq_true rfl, Nat.le_of_ble_eq_true rfl⟩ (rest := [.ref (bs + a0)]) rfl (Nat.le_of_ble_eq_true rfl) ⟨Nat.le_of_ble_eq_true rfl, Nat.le_of_ble_eq_true rfl⟩ dX9_readsOutputs_2) ?_
  refine v_putI C fdX9_19 (fun h => by cases h) dX9_readsOutputs_5 h (fun u3 h => ?_)
  refine v_aload_n C 0 dX9_readsOutputs_8 rfl rfl ?_
  refine v_getI C fdX9_19 dX9_readsOutputs_9 h (fun y4 h => ?_)
  refine v_ifeq C 19 dX9_readsOutputs_12 (by decide) h (fun _ h => ?_) (fun _ h => ?_)
  · refine v_iconst C (0 : Int32) dX9_readsOutputs_19 (by decide) ?_
    exact v_zret C dX9_readsOutputs_20 (Prod.mk.inj (Option.some.inj h)).2 (Prod.mk.inj (Option.some.inj h)).1 rfl
  · refine v_iconst C (1 : Int32) dX9_readsOutputs_15 (by decide) ?_
    refine v_goto C 20 dX9_readsOutputs_16 (by decide) ?_
    exact v_zret C dX9_readsOutputs_20 (Prod.mk.inj (Option.some.inj h)).2 (Prod.mk.inj (Option.some.inj h)).1 rfl
set_option maxRecDepth 100000 in
set_option maxHeartbeats 4000000 in
theorem wX9_readsRewriting_45 {X : UX} {D : UD} {bs tw : Nat} {u0 : UH} {r : Int32} {v : UH} (C : uCx X D bs tw cX9_readsRewriting 5 RX9 (some .boolean)) (hin : X.2.2.2.2.2.2.2.1.name = "readsRewriting") {a0 : Nat} {x2 : Int32} {x3 : Int32} {s0 : Int32} {u : UH} (h : fX9_readsRewriting_45 a0 x2 x3 s0 u = some (r, v)) : VV X D bs u0 rmX9_readsRewriting 5 0 0 (MQ X.2.2.2.2.2.2.1 (uQi D bs u0 v r) X.2.2.2.2.2.1 X.2.2.2.1 0 0 (uA bs u0)) u 45 [(0, .ref (bs + a0)), (2, .int x2), (3, .int x3)] [.int s0] := by
  unfold fX9_readsRewriting_45 at h
  refine v_istore C [(4, .int s0), (0, .ref (bs + a0)), (2, .int x2), (3, .int x3)] dX9_readsRewriting_45 (by decide) rfl ?_
  refine v_aload_n C 1 dX9_readsRewriting_47 rfl rfl ?_
  refine v_aload_n C 1 dX9_readsRewriting_48 rfl rfl ?_
  refine v_getI C fdX9_54 dX9_readsRewriting_49 h (fun y7 h => ?_)
  refine v_putI C fdX9_22 (fun h => by cases h) dX9_readsRewriting_52 h (fun u8 h => ?_)
  refine v_aload_n C 1 dX9_readsRewriting_55 rfl rfl ?_
  refine v_aload_n C 1 dX9_readsRewriting_56 rfl rfl ?_
  refine v_getI C fdX9_57 dX9_readsRewriting_57 h (fun y9 h => ?_)
  refine v_putI C fdX9_25 (fun h => by cases h) dX9_readsRewriting_60 h (fun u10 h => ?_)
  refine v_aload_n C 1 dX9_readsRewriting_63 rfl rfl ?_
  refine v_iload_n C 2 dX9_readsRewriting_64 rfl rfl ?_
  refine v_putI C fdX9_54 (fun h => by cases h) dX9_readsRewriting_65 h (fun u11 h => ?_)
  refine v_aload_n C 1 dX9_readsRewriting_68 rfl rfl ?_
  refine v_iload_n C 3 dX9_readsRewriting_69 rfl rfl ?_
  refine v_putI C fdX9_57 (fun h => by cases h) dX9_readsRewriting_70 h (fun u12 h => ?_)
  refine v_iload C 0 dX9_readsRewriting_73 rfl ?_
  obtain ⟨hz, h⟩ := bz_some h
  exact v_zret C dX9_readsRewriting_75 (Prod.mk.inj (Option.some.inj h)).2 (Prod.mk.inj (Option.some.inj h)).1 (nz hz)
set_option maxRecDepth 100000 in
set_option maxHeartbeats 4000000 in
theorem wX9_readsRewriting_44 {X : UX} {D : UD} {bs tw : Nat} {u0 : UH} {r : Int32} {v : UH} (C : uCx X D bs tw cX9_readsRewriting 5 RX9 (some .boolean)) (hin : X.2.2.2.2.2.2.2.1.name = "readsRewriting") {a0 : Nat} {x2 : Int32} {x3 : Int32} {u : UH} (h : fX9_readsRewriting_44 a0 x2 x3 u = some (r, v)) : VV X D bs u0 rmX9_readsRewriting 5 0 0 (MQ X.2.2.2.2.2.2.1 (uQi D bs u0 v r) X.2.2.2.2.2.1 X.2.2.2.1 0 0 (uA bs u0)) u 44 [(0, .ref (bs + a0)), (2, .int x2), (3, .int x3)] [] := by
  unfold fX9_readsRewriting_44 at h
  refine v_iconst C (0 : Int32) dX9_readsRewriting_44 (by decide) ?_
  refine v_sub [(0, .ref (bs + a0)), (2, .int x2), (3, .int x3)] [0, 1, 2] rfl ?_
  exact wX9_readsRewriting_45 C hin h
set_option maxRecDepth 100000 in
set_option maxHeartbeats 4000000 in
theorem mX9_readsRewriting {l : Launch} {D : UD} {bs : Nat} {a0 : Nat} {x1 : Int32} {u0 : UH} {r : Int32} {v : UH} (h : fX9_readsRewriting a0 x1 u0 = some (r, v)) : Met l yX9_readsRewriting (wz yX9_readsRewriting cX9_readsRewriting 5 (some .boolean)) rmX9_readsRewriting (va_Pc [.ref (bs + a0), .int x1] (uIn D bs u0)) (uQi D bs u0 v r) 0 0 (uA bs u0) := by
  refine uMet (by decide) (Nat.le_of_ble_eq_true rfl) ?_
  intro X tw hX C hin
  have C : uCx X D bs tw cX9_readsRewriting 5 RX9 (some .boolean) := C
  have hin : X.2.2.2.2.2.2.2.1.name = "readsRewriting" := hin
  refine v_L [(0, .ref (bs + a0)), (1, .int x1)] rfl ?_
  unfold fX9_readsRewriting at h
  refine v_aload_n C 0 dX9_readsRewriting_0 rfl rfl ?_
  refine v_getI C fdX9_15 dX9_readsRewriting_1 h (fun y1 h => ?_)
  refine v_aload_n C 0 dX9_readsRewriting_4 rfl rfl ?_
  refine v_getI C fdX9_40 dX9_readsRewriting_5 h (fun y2 h => ?_)
  refine v_icmpne C 13 dX9_readsRewriting_8 (by decide) h (fun _ h => ?_) (fun _ h => ?_)
  · refine v_aload_n C 0 dX9_readsRewriting_13 rfl rfl ?_
    refine v_getI C fdX9_54 dX9_readsRewriting_14 h (fun y3 h => ?_)
    refine v_istore_n C [(2, .int y3), (0, .ref (bs + a0)), (1, .int x1)] dX9_readsRewriting_17 rfl (by decide) rfl ?_
    refine v_aload_n C 1 dX9_readsRewriting_18 rfl rfl ?_
    refine v_getI C fdX9_57 dX9_readsRewriting_19 h (fun y4 h => ?_)
    refine v_istore_n C [(3, .int y4), (2, .int y3), (0, .ref (bs + a0)), (1, .int x1)] dX9_readsRewriting_22 rfl (by decide) rfl ?_
    refine v_aload_n C 2 dX9_readsRewriting_23 rfl rfl ?_
    refine v_bipush C (61 : Int32) dX9_readsRewriting_24 (by decide) ?_
    obtain ⟨y5, u6, h1, h⟩ := ob2_some h
    obtain ⟨hkd, h1⟩ := kd_some h1
    refine v_goi (rn_V C gcX9_32 (RX9, TX9, 9) rfl rfl (by decide) hkd (mX9_accepts h1) ⟨rfl, rfl⟩ rfl ⟨Nat.le_of_ble_eq_true rfl, Nat.le_of_ble_eq_true rfl⟩ (rest := []) rfl (Nat.le_of_ble_eq_true rfl) ⟨Nat.le_of_ble_eq_true rfl, Nat.le_of_ble_eq_true rfl⟩ dX9_readsRewriting_26) ?_
    refine v_ifeq C 44 dX9_readsRewriting_29 (by decide) h (fun _ h => ?_) (fun _ h => ?_)
    · refine v_sub [(0, .ref (bs + a0)), (2, .int y3), (3, .int y4)] [2, 1, 0] rfl ?_
      exact wX9_readsRewriting_44 C hin h
    · refine v_aload_n C 2 dX9_readsRewriting_32 rfl rfl ?_
      refine v_iload_n C 3 dX9_readsRewriting_33 rfl rfl ?_
      obtain ⟨y13, u14, h1, h⟩ := ob2_some h
      obtain ⟨hkd, h1⟩ := kd_some h1
      refine v_goi (rn_V C gcX9_36 (RX9, TX9, 9) rfl rfl (by decide) hkd (mX9_readsPattern h1) ⟨rfl, rfl⟩ rfl ⟨Nat.le_of_ble_eq_true rfl, Nat.le_of_ble_eq_true rfl⟩ (rest := []) rfl (Nat.le_of_ble_eq_true rfl) ⟨Nat.le_of_ble_eq_true rfl, Nat.le_of_ble_eq_true rfl⟩ dX9_readsRewriting_34) ?_
      refine v_ifeq C 44 dX9_readsRewriting_37 (by decide) h (fun _ h => ?_) (fun _ h => ?_)
      · refine v_sub [(0, .ref (bs + a0)), (2, .int y3), (3, .int y4)] [2, 1, 0] rfl ?_
        exact wX9_readsRewriting_44 C hin h
      · refine v_iconst C (1 : Int32) dX9_readsRewriting_40 (by decide) ?_
        refine v_goto C 45 dX9_readsRewriting_41 (by decide) ?_
        refine v_sub [(0, .ref (bs + a0)), (2, .int y3), (3, .int y4)] [2, 1, 0] rfl ?_
        exact wX9_readsRewriting_45 C hin h
  · refine v_iconst C (1 : Int32) dX9_readsRewriting_11 (by decide) ?_
    exact v_zret C dX9_readsRewriting_12 (Prod.mk.inj (Option.some.inj h)).2 (Prod.mk.inj (Option.some.inj h)).1 rfl
set_option maxRecDepth 100000 in
set_option maxHeartbeats 4000000 in
theorem mX9_isRule {l : Launch} {D : UD} {bs : Nat} {a0 : Nat} {x1 : Int32} {u0 : UH} {r : Int32} {v : UH} (h : fX9_isRule a0 x1 u0 = some (r, v)) : Met l yX9_isRule (wz yX9_isRule cX9_isRule 2 (some .boolean)) rmX9_isRule (va_Pc [.ref (bs + a0), .int x1] (uIn D bs u0)) (uQi D bs u0 v r) 0 0 (uA bs u0) := by
  refine uMet (by decide) (Nat.le_of_ble_eq_true rfl) ?_
  intro X tw hX C hin
  have C : uCx X D bs tw cX9_isRule 2 RX9 (some .boolean) := C
  have hin : X.2.2.2.2.2.2.2.1.name = "isRule" := hin
  refine v_L [(0, .ref (bs + a0)), (1, .int x1)] rfl ?_
  unfold fX9_isRule at h
  refine v_aload_n C 0 dX9_isRule_0 rfl rfl ?_
  refine v_iconst C (0 : Int32) dX9_isRule_1 (by decide) ?_
  refine v_putI C fdX9_15 (fun h => by cases h) dX9_isRule_2 h (fun u1 h => ?_)
  refine v_aload_n C 0 dX9_isRule_5 rfl rfl ?_
  refine v_iconst C (0 : Int32) dX9_isRule_6 (by decide) ?_
  refine v_putI C fdX9_19 (fun h => by cases h) dX9_isRule_7 h (fun u2 h => ?_)
  refine v_aload_n C 0 dX9_isRule_10 rfl rfl ?_
  refine v_iconst C (0 : Int32) dX9_isRule_11 (by decide) ?_
  refine v_putI C fdX9_22 (fun h => by cases h) dX9_isRule_12 h (fun u3 h => ?_)
  refine v_aload_n C 0 dX9_isRule_15 rfl rfl ?_
  refine v_iconst C (0 : Int32) dX9_isRule_16 (by decide) ?_
  refine v_putI C fdX9_25 (fun h => by cases h) dX9_isRule_17 h (fun u4 h => ?_)
  refine v_aload_n C 0 dX9_isRule_20 rfl rfl ?_
  obtain ⟨y5, u6, h1, h⟩ := ob2_some h
  obtain ⟨hkd, h1⟩ := kd_some h1
  refine v_goi (rn_V C gcX9_28 (RX9, TX9, 9) rfl rfl (by decide) hkd (mX9_readsPorts h1) ⟨rfl, rfl⟩ rfl ⟨Nat.le_of_ble_eq_true rfl, Nat.le_of_ble_eq_true rfl⟩ (rest := []) rfl (Nat.le_of_ble_eq_true rfl) ⟨Nat.le_of_ble_eq_true rfl, Nat.le_of_ble_eq_true rfl⟩ dX9_isRule_21) ?_
  refine v_ifeq C 44 dX9_isRule_24 (by decide) h (fun _ h => ?_) (fun _ h => ?_)
  · refine v_iconst C (0 : Int32) dX9_isRule_44 (by decide) ?_
    exact v_zret C dX9_isRule_45 (Prod.mk.inj (Option.some.inj h)).2 (Prod.mk.inj (Option.some.inj h)).1 rfl
  · refine v_aload_n C 0 dX9_isRule_27 rfl rfl ?_
    refine v_bipush C (58 : Int32) dX9_isRule_28 (by decide) ?_
    obtain ⟨y7, u8, h1, h⟩ := ob2_some h
    obtain ⟨hkd, h1⟩ := kd_some h1
    refine v_goi (rn_V C gcX9_32 (RX9, TX9, 9) rfl rfl (by decide) hkd (mX9_accepts h1) ⟨rfl, rfl⟩ rfl ⟨Nat.le_of_ble_eq_true rfl, Nat.le_of_ble_eq_true rfl⟩ (rest := []) rfl (Nat.le_of_ble_eq_true rfl) ⟨Nat.le_of_ble_eq_true rfl, Nat.le_of_ble_eq_true rfl⟩ dX9_isRule_30) ?_
    refine v_ifeq C 44 dX9_isRule_33 (by decide) h (fun _ h => ?_) (fun _ h => ?_)
    · refine v_iconst C (0 : Int32) dX9_isRule_44 (by decide) ?_
      exact v_zret C dX9_isRule_45 (Prod.mk.inj (Option.some.inj h)).2 (Prod.mk.inj (Option.some.inj h)).1 rfl
    · refine v_aload_n C 0 dX9_isRule_36 rfl rfl ?_
      refine v_iload_n C 1 dX9_isRule_37 rfl rfl ?_
      obtain ⟨y9, u10, h1, h⟩ := ob2_some h
      obtain ⟨hkd, h1⟩ := kd_some h1
      refine v_goi (rn_V C gcX9_36 (RX9, TX9, 9) rfl rfl (by decide) hkd (mX9_readsPattern h1) ⟨rfl, rfl⟩ rfl ⟨Nat.le_of_ble_eq_true rfl, Nat.le_of_ble_eq_true rfl⟩ (rest := []) rfl (Nat.le_of_ble_eq_true rfl) ⟨Nat.le_of_ble_eq_true rfl, Nat.le_of_ble_eq_true rfl⟩ dX9_isRule_38) ?_
      refine v_ifne C 46 dX9_isRule_41 (by decide) h (fun _ h => ?_) (fun _ h => ?_)
      · refine v_aload_n C 0 dX9_isRule_46 rfl rfl ?_
        refine v_bipush C (33 : Int32) dX9_isRule_47 (by decide) ?_
        obtain ⟨y11, u12, h1, h⟩ := ob2_some h
        obtain ⟨hkd, h1⟩ := kd_some h1
        refine v_goi (rn_V C gcX9_32 (RX9, TX9, 9) rfl rfl (by decide) hkd (mX9_accepts h1) ⟨rfl, rfl⟩ rfl ⟨Nat.le_of_ble_eq_true rfl, Nat.le_of_ble_eq_true rfl⟩ (rest := []) rfl (Nat.le_of_ble_eq_true rfl) ⟨Nat.le_of_ble_eq_true rfl, Nat.le_of_ble_eq_true rfl⟩ dX9_isRule_49) ?_
        refine v_ifeq C 72 dX9_isRule_52 (by decide) h (fun _ h => ?_) (fun _ h => ?_)
        · refine v_aload_n C 0 dX9_isRule_72 rfl rfl ?_
          refine v_bipush C (62 : Int32) dX9_isRule_73 (by decide) ?_
          obtain ⟨y13, u14, h1, h⟩ := ob2_some h
          obtain ⟨hkd, h1⟩ := kd_some h1
          refine v_goi (rn_V C gcX9_32 (RX9, TX9, 9) rfl rfl (by decide) hkd (mX9_accepts h1) ⟨rfl, rfl⟩ rfl ⟨Nat.le_of_ble_eq_true rfl, Nat.le_of_ble_eq_true rfl⟩ (rest := []) rfl (Nat.le_of_ble_eq_true rfl) ⟨Nat.le_of_ble_eq_true rfl, Nat.le_of_ble_eq_true rfl⟩ dX9_isRule_75) ?_
          refine v_ifeq C 111 dX9_isRule_78 (by decide) h (fun _ h => ?_) (fun _ h => ?_)
          · refine v_iconst C (0 : Int32) dX9_isRule_111 (by decide) ?_
            exact v_zret C dX9_isRule_112 (Prod.mk.inj (Option.some.inj h)).2 (Prod.mk.inj (Option.some.inj h)).1 rfl
          · refine v_aload_n C 0 dX9_isRule_81 rfl rfl ?_
            obtain ⟨y15, u16, h1, h⟩ := ob2_some h
            obtain ⟨hkd, h1⟩ := kd_some h1
            refine v_goi (rn_V C gcX9_43 (RX9, TX9, 9) rfl rfl (by decide) hkd (mX9_readsOutputs h1) ⟨rfl, rfl⟩ rfl ⟨Nat.le_of_ble_eq_true rfl, Nat.le_of_ble_eq_true rfl⟩ (rest := []) rfl (Nat.le_of_ble_eq_true rfl) ⟨Nat.le_of_ble_eq_true rfl, Nat.le_of_ble_eq_true rfl⟩ dX9_isRule_82) ?_
            refine v_ifeq C 111 dX9_isRule_85 (by decide) h (fun _ h => ?_) (fun _ h => ?_)
            · refine v_iconst C (0 : Int32) dX9_isRule_111 (by decide) ?_
              exact v_zret C dX9_isRule_112 (Prod.mk.inj (Option.some.inj h)).2 (Prod.mk.inj (Option.some.inj h)).1 rfl
            · refine v_aload_n C 0 dX9_isRule_88 rfl rfl ?_
              refine v_iload_n C 1 dX9_isRule_89 rfl rfl ?_
              obtain ⟨y17, u18, h1, h⟩ := ob2_some h
              obtain ⟨hkd, h1⟩ := kd_some h1
              refine v_goi (rn_V C gcX9_46 (RX9, TX9, 9) rfl rfl (by decide) hkd (mX9_readsRewriting h1) ⟨rfl, rfl⟩ rfl ⟨Nat.le_of_ble_eq_true rfl, Nat.le_of_ble_eq_true rfl⟩ (rest := []) rfl (Nat.le_of_ble_eq_true rfl) ⟨Nat.le_of_ble_eq_true rfl, Nat.le_of_ble_eq_true rfl⟩ dX9_isRule_90) ?_
              refine v_ifeq C 111 dX9_isRule_93 (by decide) h (fun _ h => ?_) (fun _ h => ?_)
              · refine v_iconst C (0 : Int32) dX9_isRule_111 (by decide) ?_
                exact v_zret C dX9_isRule_112 (Prod.mk.inj (Option.some.inj h)).2 (Prod.mk.inj (Option.some.inj h)).1 rfl
              · refine v_aload_n C 0 dX9_isRule_96 rfl rfl ?_
                refine v_getI C fdX9_15 dX9_isRule_97 h (fun y19 h => ?_)
                refine v_aload_n C 0 dX9_isRule_100 rfl rfl ?_
                refine v_getI C fdX9_40 dX9_isRule_101 h (fun y20 h => ?_)
                refine v_icmpne C 111 dX9_isRule_104 (by decide) h (fun _ h => ?_) (fun _ h => ?_)
                · refine v_iconst C (0 : Int32) dX9_isRule_111 (by decide) ?_
                  exact v_zret C dX9_isRule_112 (Prod.mk.inj (Option.some.inj h)).2 (Prod.mk.inj (Option.some.inj h)).1 rfl
                · refine v_iconst C (1 : Int32) dX9_isRule_107 (by decide) ?_
                  refine v_goto C 112 dX9_isRule_108 (by decide) ?_
                  exact v_zret C dX9_isRule_112 (Prod.mk.inj (Option.some.inj h)).2 (Prod.mk.inj (Option.some.inj h)).1 rfl
        · refine v_aload_n C 0 dX9_isRule_55 rfl rfl ?_
          refine v_getI C fdX9_15 dX9_isRule_56 h (fun y21 h => ?_)
          refine v_aload_n C 0 dX9_isRule_59 rfl rfl ?_
          refine v_getI C fdX9_40 dX9_isRule_60 h (fun y22 h => ?_)
          refine v_icmpne C 70 dX9_isRule_63 (by decide) h (fun _ h => ?_) (fun _ h => ?_)
          · refine v_iconst C (0 : Int32) dX9_isRule_70 (by decide) ?_
            exact v_zret C dX9_isRule_71 (Prod.mk.inj (Option.some.inj h)).2 (Prod.mk.inj (Option.some.inj h)).1 rfl
          · refine v_iconst C (1 : Int32) dX9_isRule_66 (by decide) ?_
            refine v_goto C 71 dX9_isRule_67 (by decide) ?_
            exact v_zret C dX9_isRule_71 (Prod.mk.inj (Option.some.inj h)).2 (Prod.mk.inj (Option.some.inj h)).1 rfl
      · refine v_iconst C (0 : Int32) dX9_isRule_44 (by decide) ?_
        exact v_zret C dX9_isRule_45 (Prod.mk.inj (Option.some.inj h)).2 (Prod.mk.inj (Option.some.inj h)).1 rfl
set_option maxRecDepth 100000 in
set_option maxHeartbeats 4000000 in
theorem mX9_readOne {l : Launch} {D : UD} {bs : Nat} {a0 : Nat} {u0 : UH} {r : Nat} {v : UH} (h : fX9_readOne a0 u0 = some (r, v)) : Met l yX9_readOne (wz yX9_readOne cX9_readOne 1 (some (.object RX6))) rmX9_readOne (va_Pc [.ref (bs + a0)] (uIn D bs u0)) (uQr D bs u0 v r) 1 8 (uA bs u0) := by
  refine uMet (by decide) (Nat.le_of_ble_eq_true rfl) ?_
  intro X tw hX C hin
  have C : uCx X D bs tw cX9_readOne 1 RX9 (some (.object RX6)) := C
  have hin : X.2.2.2.2.2.2.2.1.name = "readOne" := hin
  refine v_L [(0, .ref (bs + a0))] rfl ?_
  unfold fX9_readOne at h
  refine v_new C cdX9_49 (Nat.le_of_ble_eq_true rfl) (Nat.le_of_ble_eq_true rfl) dX9_readOne_0 h (fun b1 u2 h => ?_)
  refine v_dup C dX9_readOne_3 rfl ?_
  refine v_aload_n C 0 dX9_readOne_4 rfl rfl ?_
  refine v_getI C fdX9_51 dX9_readOne_5 h (fun y3 h => ?_)
  refine v_aload_n C 0 dX9_readOne_8 rfl rfl ?_
  refine v_getI C fdX9_54 dX9_readOne_9 h (fun y4 h => ?_)
  refine v_aload_n C 0 dX9_readOne_12 rfl rfl ?_
  refine v_getI C fdX9_57 dX9_readOne_13 h (fun y5 h => ?_)
  refine v_aload_n C 0 dX9_readOne_16 rfl rfl ?_
  refine v_getI C fdX9_19 dX9_readOne_17 h (fun y6 h => ?_)
  refine v_aload_n C 0 dX9_readOne_20 rfl rfl ?_
  refine v_getI C fdX9_22 dX9_readOne_21 h (fun y7 h => ?_)
  refine v_aload_n C 0 dX9_readOne_24 rfl rfl ?_
  refine v_getI C fdX9_25 dX9_readOne_25 h (fun y8 h => ?_)
  refine v_iconst C (1 : Int32) dX9_readOne_28 (by decide) ?_
  obtain ⟨u9, h1, h⟩ := ob_some h
  refine v_gov (rn_I C gcX9_60 (mX6_init h1) ⟨rfl, rfl⟩ rfl ⟨Nat.le_of_ble_eq_true rfl, Nat.le_of_ble_eq_true rfl⟩ (rest := [.ref (bs + b1)]) rfl (Nat.le_of_ble_eq_true rfl) ⟨Nat.le_of_ble_eq_true rfl, Nat.le_of_ble_eq_true rfl⟩ dX9_readOne_29) ?_
  exact v_aret C dX9_readOne_32 (Prod.mk.inj (Option.some.inj h)).2 (Prod.mk.inj (Option.some.inj h)).1 (Or.inl ⟨_, rfl⟩)
set_option maxRecDepth 100000 in
set_option maxHeartbeats 4000000 in
theorem mX11_readRule {l : Launch} {D : UD} {bs : Nat} {a0 : Nat} {x1 : Int32} {u0 : UH} {r : Int32} {v : UH} (h : fX11_readRule a0 x1 u0 = some (r, v)) : Met l yX11_readRule (wz yX11_readRule cX11_readRule 2 (some .int)) rmX11_readRule (va_Pc [.ref (bs + a0), .int x1] (uIn D bs u0)) (uQi D bs u0 v r) 1 8 (uA bs u0) := by
  refine uMet (by decide) (Nat.le_of_ble_eq_true rfl) ?_
  intro X tw hX C hin
  have C : uCx X D bs tw cX11_readRule 2 RX11 (some .int) := C
  have hin : X.2.2.2.2.2.2.2.1.name = "readRule" := hin
  refine v_L [(0, .ref (bs + a0)), (1, .int x1)] rfl ?_
  unfold fX11_readRule at h
  refine v_iload_n C 1 dX11_readRule_0 rfl rfl ?_
  obtain ⟨y1, h1, h⟩ := ob_some h
  refine v_goi (rn_S C gcX11_116 (mX11_isBox h1) ⟨rfl, rfl⟩ rfl ⟨Nat.le_of_ble_eq_true rfl, Nat.le_of_ble_eq_true rfl⟩ (rest := []) rfl (Nat.le_of_ble_eq_true rfl) ⟨Nat.le_of_ble_eq_true rfl, Nat.le_of_ble_eq_true rfl⟩ dX11_readRule_1) ?_
  refine v_ifne C 9 dX11_readRule_4 (by decide) h (fun _ h => ?_) (fun _ h => ?_)
  · refine v_aload_n C 0 dX11_readRule_9 rfl rfl ?_
    refine v_getR C fdX11_58 dX11_readRule_10 h (fun b2 h => ?_)
    refine v_aload_n C 0 dX11_readRule_13 rfl rfl ?_
    refine v_getR C fdX11_14 dX11_readRule_14 h (fun b3 h => ?_)
    refine v_getI C fdX11_84 dX11_readRule_17 h (fun y4 h => ?_)
    obtain ⟨y5, u6, h1, h⟩ := ob2_some h
    obtain ⟨hkd, h1⟩ := kd_some h1
    refine v_goi (rn_V C gcX11_322 (RX9, TX9, 9) rfl rfl (by decide) hkd (mX9_isRule h1) ⟨rfl, rfl⟩ rfl ⟨Nat.le_of_ble_eq_true rfl, Nat.le_of_ble_eq_true rfl⟩ (rest := []) rfl (Nat.le_of_ble_eq_true rfl) ⟨Nat.le_of_ble_eq_true rfl, Nat.le_of_ble_eq_true rfl⟩ dX11_readRule_20) ?_
    refine v_ifne C 37 dX11_readRule_23 (by decide) h (fun _ h => ?_) (fun _ h => ?_)
    · refine v_aload_n C 0 dX11_readRule_37 rfl rfl ?_
      refine v_iload_n C 1 dX11_readRule_38 rfl rfl ?_
      refine v_aload_n C 0 dX11_readRule_39 rfl rfl ?_
      refine v_getR C fdX11_14 dX11_readRule_40 h (fun b7 h => ?_)
      refine v_getR C fdX11_142 dX11_readRule_43 h (fun b8 h => ?_)
      refine v_iload_n C 1 dX11_readRule_46 rfl rfl ?_
      refine v_ldR C 26 _ rfl (by decide) dX11_readRule_47 h (fun b9 h => ?_)
      refine v_getI C fdX11_176 dX11_readRule_48 h (fun y10 h => ?_)
      refine v_aload_n C 0 dX11_readRule_51 rfl rfl ?_
      refine v_getR C fdX11_58 dX11_readRule_52 h (fun b11 h => ?_)
      obtain ⟨b12, u13, h1, h⟩ := ob2_some h
      obtain ⟨hkd, h1⟩ := kd_some h1
      refine v_gor (rn_V C gcX11_328 (RX9, TX9, 9) rfl rfl (by decide) hkd (mX9_readOne h1) ⟨rfl, rfl⟩ rfl ⟨Nat.le_of_ble_eq_true rfl, Nat.le_of_ble_eq_true rfl⟩ (rest := [.int y10, .int x1, .ref (bs + a0)]) rfl (Nat.le_of_ble_eq_true rfl) ⟨Nat.le_of_ble_eq_true rfl, Nat.le_of_ble_eq_true rfl⟩ dX11_readRule_55) ?_
      obtain ⟨y14, u15, h1, h⟩ := ob2_some h
      obtain ⟨hkd, h1⟩ := kd_some h1
      refine v_goi (rn_V C gcX11_129 (RX11, TX11, 12) rfl rfl (by decide) hkd (mX11_insertRule h1) ⟨rfl, rfl⟩ rfl ⟨Nat.le_of_ble_eq_true rfl, Nat.le_of_ble_eq_true rfl⟩ (rest := []) rfl (Nat.le_of_ble_eq_true rfl) ⟨Nat.le_of_ble_eq_true rfl, Nat.le_of_ble_eq_true rfl⟩ dX11_readRule_58) ?_
      exact v_iret C dX11_readRule_61 (Prod.mk.inj (Option.some.inj h)).2 (Prod.mk.inj (Option.some.inj h)).1
    · refine v_bipush C (-100 : Int32) dX11_readRule_26 (by decide) ?_
      refine v_aload_n C 0 dX11_readRule_28 rfl rfl ?_
      refine v_getR C fdX11_58 dX11_readRule_29 h (fun b16 h => ?_)
      refine v_getI C fdX11_325 dX11_readRule_32 h (fun y17 h => ?_)
      refine v_isub C dX11_readRule_35 ?_
      refine v_widen 1 8 (Nat.le_of_ble_eq_true rfl) (Nat.le_of_ble_eq_true rfl) ?_
      exact v_iret C dX11_readRule_36 (Prod.mk.inj (Option.some.inj h)).2 (Prod.mk.inj (Option.some.inj h)).1
  · refine v_iconst C (-1 : Int32) dX11_readRule_7 (by decide) ?_
    refine v_widen 1 8 (Nat.le_of_ble_eq_true rfl) (Nat.le_of_ble_eq_true rfl) ?_
    exact v_iret C dX11_readRule_8 (Prod.mk.inj (Option.some.inj h)).2 (Prod.mk.inj (Option.some.inj h)).1
set_option maxRecDepth 100000 in
set_option maxHeartbeats 4000000 in
theorem mX8_put {l : Launch} {D : UD} {bs : Nat} {a0 : Nat} {x1 : Int32} {u0 : UH} {v : UH} (h : fX8_put a0 x1 u0 = some v) : Met l yX8_put (wz yX8_put cX8_put 2 none) rmX8_put (va_Pc [.ref (bs + a0), .int x1] (uIn D bs u0)) (uQv D bs u0 v) 0 0 (uA bs u0) := by
  refine uMet (by decide) (Nat.le_of_ble_eq_true rfl) ?_
  intro X tw hX C hin
  have C : uCx X D bs tw cX8_put 2 RX8 none := C
  have hin : X.2.2.2.2.2.2.2.1.name = "put" := hin
  refine v_L [(0, .ref (bs + a0)), (1, .int x1)] rfl ?_
  unfold fX8_put at h
  refine v_aload_n C 0 dX8_put_0 rfl rfl ?_
  refine v_getI C fdX8_15 dX8_put_1 h (fun y1 h => ?_)
  refine v_bipush C (40 : Int32) dX8_put_4 (by decide) ?_
  refine v_icmpge C 29 dX8_put_6 (by decide) h (fun _ h => ?_) (fun _ h => ?_)
  · exact v_vret C dX8_put_29 (Option.some.inj h)
  · refine v_aload_n C 0 dX8_put_9 rfl rfl ?_
    refine v_getR C fdX8_9 dX8_put_10 h (fun b2 h => ?_)
    refine v_aload_n C 0 dX8_put_13 rfl rfl ?_
    refine v_getI C fdX8_15 dX8_put_14 h (fun y3 h => ?_)
    refine v_iload_n C 1 dX8_put_17 rfl rfl ?_
    refine v_stC C dX8_put_18 h (fun u4 h => ?_)
    refine v_aload_n C 0 dX8_put_19 rfl rfl ?_
    refine v_dup C dX8_put_20 rfl ?_
    refine v_getI C fdX8_15 dX8_put_21 h (fun y5 h => ?_)
    refine v_iconst C (1 : Int32) dX8_put_24 (by decide) ?_
    refine v_iadd C dX8_put_25 ?_
    refine v_putI C fdX8_15 (fun h => by cases h) dX8_put_26 h (fun u6 h => ?_)
    exact v_vret C dX8_put_29 (Option.some.inj h)
set_option maxRecDepth 100000 in
set_option maxHeartbeats 4000000 in
theorem wX8_putDigits_B2 {X : UX} {D : UD} {bs tw : Nat} {u0 : UH} {v : UH} (C : uCx X D bs tw cX8_putDigits 3 RX8 none) (hin : X.2.2.2.2.2.2.2.1.name = "putDigits") {a0 : Nat} {x1 : Int32}  {G : UH → Prop} {k : Int32 → UH → Option UH} (hk : ∀ (x2 : Int32) (u' : UH) e, k x2 u' = some e → G e → VV X D bs u0 rmX8_putDigits 3 0 0 (MQ X.2.2.2.2.2.2.1 (uQv D bs u0 v) X.2.2.2.2.2.1 X.2.2.2.1 0 0 (uA bs u0)) u' 2 [(0, .ref (bs + a0)), (1, .int x1), (2, .int x2)] []) (hex : ∀  (u' : UH), G u' → VV X D bs u0 rmX8_putDigits 3 0 0 (MQ X.2.2.2.2.2.2.1 (uQv D bs u0 v) X.2.2.2.2.2.1 X.2.2.2.1 0 0 (uA bs u0)) u' 30 [] [])  : ∀ (x2 : Int32) (u : UH) e, fX8_putDigits_B2 a0 x1  k x2 u = some e → G e → VV X D bs u0 rmX8_putDigits 3 0 0 (MQ X.2.2.2.2.2.2.1 (uQv D bs u0 v) X.2.2.2.2.2.1 X.2.2.2.1 0 0 (uA bs u0)) u 2 [(0, .ref (bs + a0)), (1, .int x1), (2, .int x2)] [] := by
  intro x2 u e h g
  unfold fX8_putDigits_B2 at h
  refine v_iload_n C 2 dX8_putDigits_2 rfl rfl ?_
  refine v_iconst C (4 : Int32) dX8_putDigits_3 (by decide) ?_
  refine v_icmpge C 30 dX8_putDigits_4 (by decide) h (fun _ h => ?_) (fun _ h => ?_)
  · refine v_sub [] [] rfl ?_
    exact hex u ((Option.some.inj h).symm ▸ g)
  · refine v_iload_n C 1 dX8_putDigits_7 rfl rfl ?_
    refine v_iload_n C 2 dX8_putDigits_8 rfl rfl ?_
    obtain ⟨y1, h1, h⟩ := ob_some h
    refine v_goi (rn_N C gcX8_51 (mX11_hasPort h1) ⟨rfl, rfl⟩ rfl ⟨Nat.le_of_ble_eq_true rfl, Nat.le_of_ble_eq_true rfl⟩ (rest := []) rfl (Nat.le_of_ble_eq_true rfl) ⟨Nat.le_of_ble_eq_true rfl, Nat.le_of_ble_eq_true rfl⟩ dX8_putDigits_9) ?_
    refine v_ifeq C 24 dX8_putDigits_12 (by decide) h (fun _ h => ?_) (fun _ h => ?_)
    · refine v_iinc C 2 (x2 + (1 : Int32)) [(2, .int (x2 + (1 : Int32))), (0, .ref (bs + a0)), (1, .int x1)] dX8_putDigits_24 rfl rfl (by decide) rfl ?_
      refine v_goto C 2 dX8_putDigits_27 (by decide) ?_
      refine v_sub [(0, .ref (bs + a0)), (1, .int x1), (2, .int (x2 + (1 : Int32)))] [1, 2, 0] rfl ?_
      exact hk (x2 + (1 : Int32)) u _ h g
    · refine v_aload_n C 0 dX8_putDigits_15 rfl rfl ?_
      refine v_bipush C (48 : Int32) dX8_putDigits_16 (by decide) ?_
      refine v_iload_n C 2 dX8_putDigits_18 rfl rfl ?_
      refine v_iadd C dX8_putDigits_19 ?_
      refine v_i2c C dX8_putDigits_20 ?_
      obtain ⟨u2, h1, h⟩ := ob_some h
      obtain ⟨hkd, h1⟩ := kd_some h1
      refine v_gov (rn_V C gcX8_24 (RX8, TX8, 2) rfl rfl (by decide) hkd (mX8_put h1) ⟨rfl, rfl⟩ rfl ⟨Nat.le_of_ble_eq_true rfl, Nat.le_of_ble_eq_true rfl⟩ (rest := []) rfl (Nat.le_of_ble_eq_true rfl) ⟨Nat.le_of_ble_eq_true rfl, Nat.le_of_ble_eq_true rfl⟩ dX8_putDigits_21) ?_
      refine v_iinc C 2 (x2 + (1 : Int32)) [(2, .int (x2 + (1 : Int32))), (0, .ref (bs + a0)), (1, .int x1)] dX8_putDigits_24 rfl rfl (by decide) rfl ?_
      refine v_goto C 2 dX8_putDigits_27 (by decide) ?_
      refine v_sub [(0, .ref (bs + a0)), (1, .int x1), (2, .int (x2 + (1 : Int32)))] [1, 2, 0] rfl ?_
      exact hk (x2 + (1 : Int32)) u2 _ h g
set_option maxRecDepth 100000 in
set_option maxHeartbeats 4000000 in
theorem mX8_putDigits {l : Launch} {D : UD} {bs : Nat} {a0 : Nat} {x1 : Int32} {u0 : UH} {v : UH} (h : fX8_putDigits a0 x1 u0 = some v) : Met l yX8_putDigits (wz yX8_putDigits cX8_putDigits 3 none) rmX8_putDigits (va_Pc [.ref (bs + a0), .int x1] (uIn D bs u0)) (uQv D bs u0 v) 0 0 (uA bs u0) := by
  refine uMet (by decide) (Nat.le_of_ble_eq_true rfl) ?_
  intro X tw hX C hin
  have C : uCx X D bs tw cX8_putDigits 3 RX8 none := C
  have hin : X.2.2.2.2.2.2.2.1.name = "putDigits" := hin
  refine v_L [(0, .ref (bs + a0)), (1, .int x1)] rfl ?_
  unfold fX8_putDigits at h
  refine v_iconst C (0 : Int32) dX8_putDigits_0 (by decide) ?_
  refine v_istore_n C [(2, .int (0 : Int32)), (0, .ref (bs + a0)), (1, .int x1)] dX8_putDigits_1 rfl (by decide) rfl ?_
  refine v_sub [(0, .ref (bs + a0)), (1, .int x1), (2, .int (0 : Int32))] [1, 2, 0] rfl ?_
  refine it2_O (V := fun x2 u' => VV X D bs u0 rmX8_putDigits 3 0 0 (MQ X.2.2.2.2.2.2.1 (uQv D bs u0 v) X.2.2.2.2.2.1 X.2.2.2.1 0 0 (uA bs u0)) u' 2 [(0, .ref (bs + a0)), (1, .int x1), (2, .int x2)] []) h (fun k_ hk_ => wX8_putDigits_B2 C hin hk_ ?_ )
  intro z4 h
  try dsimp only [Sum.elim_inl] at h
  exact v_vret C dX8_putDigits_30 (Option.some.inj h)
set_option maxRecDepth 100000 in
set_option maxHeartbeats 4000000 in
theorem wX8_putPattern_45 {X : UX} {D : UD} {bs tw : Nat} {u0 : UH} {v : UH} (C : uCx X D bs tw cX8_putPattern 5 RX8 none) (hin : X.2.2.2.2.2.2.2.1.name = "putPattern") {a0 : Nat} {x1 : Int32} {x2 : Int32}  {G : UH → Prop} {k : Int32 → UH → Option UH} (hk : ∀ (x4 : Int32) (u' : UH) e, k x4 u' = some e → G e → VV X D bs u0 rmX8_putPattern 5 0 0 (MQ X.2.2.2.2.2.2.1 (uQv D bs u0 v) X.2.2.2.2.2.1 X.2.2.2.1 0 0 (uA bs u0)) u' 5 [(0, .ref (bs + a0)), (1, .int x1), (2, .int x2), (4, .int x4)] []) (hex : ∀  (u' : UH), G u' → VV X D bs u0 rmX8_putPattern 5 0 0 (MQ X.2.2.2.2.2.2.1 (uQv D bs u0 v) X.2.2.2.2.2.1 X.2.2.2.1 0 0 (uA bs u0)) u' 54 [] [])  {x4 : Int32} {s0 : Int32} {s1 : Nat} {u : UH} {e : UH} (h : fX8_putPattern_45 k a0 x1 x2 x4 s0 s1 u = some e) (g : G e) : VV X D bs u0 rmX8_putPattern 5 0 0 (MQ X.2.2.2.2.2.2.1 (uQv D bs u0 v) X.2.2.2.2.2.1 X.2.2.2.1 0 0 (uA bs u0)) u 45 [(0, .ref (bs + a0)), (1, .int x1), (2, .int x2), (4, .int x4)] [.int s0, .ref (bs + s1)] := by
  unfold fX8_putPattern_45 at h
  obtain ⟨u2, h1, h⟩ := ob_some h
  obtain ⟨hkd, h1⟩ := kd_some h1
  refine v_gov (rn_V C gcX8_24 (RX8, TX8, 2) rfl rfl (by decide) hkd (mX8_put h1) ⟨rfl, rfl⟩ rfl ⟨Nat.le_of_ble_eq_true rfl, Nat.le_of_ble_eq_true rfl⟩ (rest := []) rfl (Nat.le_of_ble_eq_true rfl) ⟨Nat.le_of_ble_eq_true rfl, Nat.le_of_ble_eq_true rfl⟩ dX8_putPattern_45) ?_
  refine v_iinc C 3 (x4 + (-1 : Int32)) [(4, .int (x4 + (-1 : Int32))), (0, .ref (bs + a0)), (1, .int x1), (2, .int x2)] dX8_putPattern_48 rfl rfl (by decide) rfl ?_
  refine v_goto C 5 dX8_putPattern_51 (by decide) ?_
  refine v_sub [(0, .ref (bs + a0)), (1, .int x1), (2, .int x2), (4, .int (x4 + (-1 : Int32)))] [1, 2, 3, 0] rfl ?_
  exact hk (x4 + (-1 : Int32)) u2 _ h g
set_option maxRecDepth 100000 in
set_option maxHeartbeats 4000000 in
theorem wX8_putPattern_B5 {X : UX} {D : UD} {bs tw : Nat} {u0 : UH} {v : UH} (C : uCx X D bs tw cX8_putPattern 5 RX8 none) (hin : X.2.2.2.2.2.2.2.1.name = "putPattern") {a0 : Nat} {x1 : Int32} {x2 : Int32}  {G : UH → Prop} {k : Int32 → UH → Option UH} (hk : ∀ (x4 : Int32) (u' : UH) e, k x4 u' = some e → G e → VV X D bs u0 rmX8_putPattern 5 0 0 (MQ X.2.2.2.2.2.2.1 (uQv D bs u0 v) X.2.2.2.2.2.1 X.2.2.2.1 0 0 (uA bs u0)) u' 5 [(0, .ref (bs + a0)), (1, .int x1), (2, .int x2), (4, .int x4)] []) (hex : ∀  (u' : UH), G u' → VV X D bs u0 rmX8_putPattern 5 0 0 (MQ X.2.2.2.2.2.2.1 (uQv D bs u0 v) X.2.2.2.2.2.1 X.2.2.2.1 0 0 (uA bs u0)) u' 54 [] [])  : ∀ (x4 : Int32) (u : UH) e, fX8_putPattern_B5 a0 x1 x2  k x4 u = some e → G e → VV X D bs u0 rmX8_putPattern 5 0 0 (MQ X.2.2.2.2.2.2.1 (uQv D bs u0 v) X.2.2.2.2.2.1 X.2.2.2.1 0 0 (uA bs u0)) u 5 [(0, .ref (bs + a0)), (1, .int x1), (2, .int x2), (4, .int x4)] [] := by
  intro x4 u e h g
  unfold fX8_putPattern_B5 at h
  refine v_iload C 3 dX8_putPattern_5 rfl ?_
  refine v_iflt C 54 dX8_putPattern_7 (by decide) h (fun _ h => ?_) (fun _ h => ?_)
  · refine v_sub [] [] rfl ?_
    exact hex u ((Option.some.inj h).symm ▸ g)
  · refine v_iload_n C 1 dX8_putPattern_10 rfl rfl ?_
    refine v_iload C 3 dX8_putPattern_11 rfl ?_
    refine v_ishr C dX8_putPattern_13 ?_
    refine v_iconst C (1 : Int32) dX8_putPattern_14 (by decide) ?_
    refine v_iand C dX8_putPattern_15 ?_
    refine v_ifne C 28 dX8_putPattern_16 (by decide) h (fun _ h => ?_) (fun _ h => ?_)
    · refine v_aload_n C 0 dX8_putPattern_28 rfl rfl ?_
      refine v_iload_n C 2 dX8_putPattern_29 rfl rfl ?_
      refine v_iload C 3 dX8_putPattern_30 rfl ?_
      refine v_ishr C dX8_putPattern_32 ?_
      refine v_iconst C (1 : Int32) dX8_putPattern_33 (by decide) ?_
      refine v_iand C dX8_putPattern_34 ?_
      refine v_ifeq C 43 dX8_putPattern_35 (by decide) h (fun _ h => ?_) (fun _ h => ?_)
      · refine v_bipush C (48 : Int32) dX8_putPattern_43 (by decide) ?_
        refine v_sub [(0, .ref (bs + a0)), (1, .int x1), (2, .int x2), (4, .int x4)] [0, 1, 2, 3] rfl ?_
        exact wX8_putPattern_45 C hin hk hex  h g
      · refine v_bipush C (49 : Int32) dX8_putPattern_38 (by decide) ?_
        refine v_goto C 45 dX8_putPattern_40 (by decide) ?_
        refine v_sub [(0, .ref (bs + a0)), (1, .int x1), (2, .int x2), (4, .int x4)] [0, 1, 2, 3] rfl ?_
        exact wX8_putPattern_45 C hin hk hex  h g
    · refine v_aload_n C 0 dX8_putPattern_19 rfl rfl ?_
      refine v_bipush C (42 : Int32) dX8_putPattern_20 (by decide) ?_
      obtain ⟨u3, h1, h⟩ := ob_some h
      obtain ⟨hkd, h1⟩ := kd_some h1
      refine v_gov (rn_V C gcX8_24 (RX8, TX8, 2) rfl rfl (by decide) hkd (mX8_put h1) ⟨rfl, rfl⟩ rfl ⟨Nat.le_of_ble_eq_true rfl, Nat.le_of_ble_eq_true rfl⟩ (rest := []) rfl (Nat.le_of_ble_eq_true rfl) ⟨Nat.le_of_ble_eq_true rfl, Nat.le_of_ble_eq_true rfl⟩ dX8_putPattern_22) ?_
      refine v_goto C 48 dX8_putPattern_25 (by decide) ?_
      refine v_iinc C 3 (x4 + (-1 : Int32)) [(4, .int (x4 + (-1 : Int32))), (0, .ref (bs + a0)), (1, .int x1), (2, .int x2)] dX8_putPattern_48 rfl rfl (by decide) rfl ?_
      refine v_goto C 5 dX8_putPattern_51 (by decide) ?_
      refine v_sub [(0, .ref (bs + a0)), (1, .int x1), (2, .int x2), (4, .int (x4 + (-1 : Int32)))] [1, 2, 3, 0] rfl ?_
      exact hk (x4 + (-1 : Int32)) u3 _ h g
set_option maxRecDepth 100000 in
set_option maxHeartbeats 4000000 in
theorem mX8_putPattern {l : Launch} {D : UD} {bs : Nat} {a0 : Nat} {x1 : Int32} {x2 : Int32} {x3 : Int32} {u0 : UH} {v : UH} (h : fX8_putPattern a0 x1 x2 x3 u0 = some v) : Met l yX8_putPattern (wz yX8_putPattern cX8_putPattern 5 none) rmX8_putPattern (va_Pc [.ref (bs + a0), .int x1, .int x2, .int x3] (uIn D bs u0)) (uQv D bs u0 v) 0 0 (uA bs u0) := by
  refine uMet (by decide) (Nat.le_of_ble_eq_true rfl) ?_
  intro X tw hX C hin
  have C : uCx X D bs tw cX8_putPattern 5 RX8 none := C
  have hin : X.2.2.2.2.2.2.2.1.name = "putPattern" := hin
  refine v_L [(0, .ref (bs + a0)), (1, .int x1), (2, .int x2), (3, .int x3)] rfl ?_
  unfold fX8_putPattern at h
  refine v_iload_n C 3 dX8_putPattern_0 rfl rfl ?_
  refine v_iconst C (1 : Int32) dX8_putPattern_1 (by decide) ?_
  refine v_isub C dX8_putPattern_2 ?_
  refine v_lti h (fun y1 h => ?_)
  refine v_istore C [(4, .int y1), (0, .ref (bs + a0)), (1, .int x1), (2, .int x2), (3, .int x3)] dX8_putPattern_3 (by decide) rfl ?_
  refine v_sub [(0, .ref (bs + a0)), (1, .int x1), (2, .int x2), (4, .int y1)] [1, 2, 3, 0] rfl ?_
  refine it2_O (V := fun x4 u' => VV X D bs u0 rmX8_putPattern 5 0 0 (MQ X.2.2.2.2.2.2.1 (uQv D bs u0 v) X.2.2.2.2.2.1 X.2.2.2.1 0 0 (uA bs u0)) u' 5 [(0, .ref (bs + a0)), (1, .int x1), (2, .int x2), (4, .int x4)] []) h (fun k_ hk_ => wX8_putPattern_B5 C hin hk_ ?_ )
  intro z5 h
  try dsimp only [Sum.elim_inl] at h
  exact v_vret C dX8_putPattern_54 (Option.some.inj h)
set_option maxRecDepth 100000 in
set_option maxHeartbeats 4000000 in
theorem wX8_write_31 {X : UX} {D : UD} {bs tw : Nat} {u0 : UH} {v : UH} (C : uCx X D bs tw cX8_write 3 RX8 none) (hin : X.2.2.2.2.2.2.2.1.name = "write") {a0 : Nat} {a1 : Nat} {x2 : Int32} {u : UH} (h : fX8_write_31 a0 a1 x2 u = some v) : VV X D bs u0 rmX8_write 3 0 0 (MQ X.2.2.2.2.2.2.1 (uQv D bs u0 v) X.2.2.2.2.2.1 X.2.2.2.1 0 0 (uA bs u0)) u 31 [(0, .ref (bs + a0)), (1, .ref (bs + a1)), (2, .int x2)] [] := by
  unfold fX8_write_31 at h
  refine v_aload_n C 0 dX8_write_31 rfl rfl ?_
  refine v_bipush C (58 : Int32) dX8_write_32 (by decide) ?_
  obtain ⟨u5, h1, h⟩ := ob_some h
  obtain ⟨hkd, h1⟩ := kd_some h1
  refine v_gov (rn_V C gcX8_24 (RX8, TX8, 2) rfl rfl (by decide) hkd (mX8_put h1) ⟨rfl, rfl⟩ rfl ⟨Nat.le_of_ble_eq_true rfl, Nat.le_of_ble_eq_true rfl⟩ (rest := []) rfl (Nat.le_of_ble_eq_true rfl) ⟨Nat.le_of_ble_eq_true rfl, Nat.le_of_ble_eq_true rfl⟩ dX8_write_34) ?_
  refine v_aload_n C 0 dX8_write_37 rfl rfl ?_
  refine v_aload_n C 1 dX8_write_38 rfl rfl ?_
  refine v_getI C fdX8_32 dX8_write_39 h (fun y6 h => ?_)
  refine v_aload_n C 1 dX8_write_42 rfl rfl ?_
  refine v_getI C fdX8_35 dX8_write_43 h (fun y7 h => ?_)
  refine v_iload_n C 2 dX8_write_46 rfl rfl ?_
  obtain ⟨u8, h1, h⟩ := ob_some h
  obtain ⟨hkd, h1⟩ := kd_some h1
  refine v_gov (rn_V C gcX8_38 (RX8, TX8, 2) rfl rfl (by decide) hkd (mX8_putPattern h1) ⟨rfl, rfl⟩ rfl ⟨Nat.le_of_ble_eq_true rfl, Nat.le_of_ble_eq_true rfl⟩ (rest := []) rfl (Nat.le_of_ble_eq_true rfl) ⟨Nat.le_of_ble_eq_true rfl, Nat.le_of_ble_eq_true rfl⟩ dX8_write_47) ?_
  refine v_aload_n C 1 dX8_write_50 rfl rfl ?_
  refine v_getI C fdX8_42 dX8_write_51 h (fun y9 h => ?_)
  refine v_ifne C 64 dX8_write_54 (by decide) h (fun _ h => ?_) (fun _ h => ?_)
  · refine v_aload_n C 0 dX8_write_64 rfl rfl ?_
    refine v_bipush C (62 : Int32) dX8_write_65 (by decide) ?_
    obtain ⟨u10, h1, h⟩ := ob_some h
    obtain ⟨hkd, h1⟩ := kd_some h1
    refine v_gov (rn_V C gcX8_24 (RX8, TX8, 2) rfl rfl (by decide) hkd (mX8_put h1) ⟨rfl, rfl⟩ rfl ⟨Nat.le_of_ble_eq_true rfl, Nat.le_of_ble_eq_true rfl⟩ (rest := []) rfl (Nat.le_of_ble_eq_true rfl) ⟨Nat.le_of_ble_eq_true rfl, Nat.le_of_ble_eq_true rfl⟩ dX8_write_67) ?_
    refine v_aload_n C 0 dX8_write_70 rfl rfl ?_
    refine v_aload_n C 1 dX8_write_71 rfl rfl ?_
    refine v_getI C fdX8_42 dX8_write_72 h (fun y11 h => ?_)
    obtain ⟨u12, h1, h⟩ := ob_some h
    obtain ⟨hkd, h1⟩ := kd_some h1
    refine v_gov (rn_V C gcX8_28 (RX8, TX8, 2) rfl rfl (by decide) hkd (mX8_putDigits h1) ⟨rfl, rfl⟩ rfl ⟨Nat.le_of_ble_eq_true rfl, Nat.le_of_ble_eq_true rfl⟩ (rest := []) rfl (Nat.le_of_ble_eq_true rfl) ⟨Nat.le_of_ble_eq_true rfl, Nat.le_of_ble_eq_true rfl⟩ dX8_write_75) ?_
    refine v_aload_n C 1 dX8_write_78 rfl rfl ?_
    refine v_getI C fdX8_45 dX8_write_79 h (fun y13 h => ?_)
    refine v_ifeq C 104 dX8_write_82 (by decide) h (fun _ h => ?_) (fun _ h => ?_)
    · exact v_vret C dX8_write_104 (Option.some.inj h)
    · refine v_aload_n C 0 dX8_write_85 rfl rfl ?_
      refine v_bipush C (61 : Int32) dX8_write_86 (by decide) ?_
      obtain ⟨u14, h1, h⟩ := ob_some h
      obtain ⟨hkd, h1⟩ := kd_some h1
      refine v_gov (rn_V C gcX8_24 (RX8, TX8, 2) rfl rfl (by decide) hkd (mX8_put h1) ⟨rfl, rfl⟩ rfl ⟨Nat.le_of_ble_eq_true rfl, Nat.le_of_ble_eq_true rfl⟩ (rest := []) rfl (Nat.le_of_ble_eq_true rfl) ⟨Nat.le_of_ble_eq_true rfl, Nat.le_of_ble_eq_true rfl⟩ dX8_write_88) ?_
      refine v_aload_n C 0 dX8_write_91 rfl rfl ?_
      refine v_aload_n C 1 dX8_write_92 rfl rfl ?_
      refine v_getI C fdX8_45 dX8_write_93 h (fun y15 h => ?_)
      refine v_aload_n C 1 dX8_write_96 rfl rfl ?_
      refine v_getI C fdX8_48 dX8_write_97 h (fun y16 h => ?_)
      refine v_iload_n C 2 dX8_write_100 rfl rfl ?_
      obtain ⟨u17, h1, h⟩ := ob_some h
      obtain ⟨hkd, h1⟩ := kd_some h1
      refine v_gov (rn_V C gcX8_38 (RX8, TX8, 2) rfl rfl (by decide) hkd (mX8_putPattern h1) ⟨rfl, rfl⟩ rfl ⟨Nat.le_of_ble_eq_true rfl, Nat.le_of_ble_eq_true rfl⟩ (rest := []) rfl (Nat.le_of_ble_eq_true rfl) ⟨Nat.le_of_ble_eq_true rfl, Nat.le_of_ble_eq_true rfl⟩ dX8_write_101) ?_
      exact v_vret C dX8_write_104 (Option.some.inj h)
  · refine v_aload_n C 0 dX8_write_57 rfl rfl ?_
    refine v_bipush C (33 : Int32) dX8_write_58 (by decide) ?_
    obtain ⟨u18, h1, h⟩ := ob_some h
    obtain ⟨hkd, h1⟩ := kd_some h1
    refine v_gov (rn_V C gcX8_24 (RX8, TX8, 2) rfl rfl (by decide) hkd (mX8_put h1) ⟨rfl, rfl⟩ rfl ⟨Nat.le_of_ble_eq_true rfl, Nat.le_of_ble_eq_true rfl⟩ (rest := []) rfl (Nat.le_of_ble_eq_true rfl) ⟨Nat.le_of_ble_eq_true rfl, Nat.le_of_ble_eq_true rfl⟩ dX8_write_60) ?_
    exact v_vret C dX8_write_63 (Option.some.inj h)
set_option maxRecDepth 100000 in
set_option maxHeartbeats 4000000 in
theorem mX8_write {l : Launch} {D : UD} {bs : Nat} {a0 : Nat} {a1 : Nat} {x2 : Int32} {u0 : UH} {v : UH} (h : fX8_write a0 a1 x2 u0 = some v) : Met l yX8_write (wz yX8_write cX8_write 3 none) rmX8_write (va_Pc [.ref (bs + a0), .ref (bs + a1), .int x2] (uIn D bs u0)) (uQv D bs u0 v) 0 0 (uA bs u0) := by
  refine uMet (by decide) (Nat.le_of_ble_eq_true rfl) ?_
  intro X tw hX C hin
  have C : uCx X D bs tw cX8_write 3 RX8 none := C
  have hin : X.2.2.2.2.2.2.2.1.name = "write" := hin
  refine v_L [(0, .ref (bs + a0)), (1, .ref (bs + a1)), (2, .int x2)] rfl ?_
  unfold fX8_write at h
  refine v_aload_n C 0 dX8_write_0 rfl rfl ?_
  refine v_iconst C (0 : Int32) dX8_write_1 (by decide) ?_
  refine v_putI C fdX8_15 (fun h => by cases h) dX8_write_2 h (fun u1 h => ?_)
  refine v_aload_n C 1 dX8_write_5 rfl rfl ?_
  refine v_getI C fdX8_19 dX8_write_6 h (fun y2 h => ?_)
  refine v_bipush C (15 : Int32) dX8_write_9 (by decide) ?_
  refine v_icmpne C 23 dX8_write_11 (by decide) h (fun _ h => ?_) (fun _ h => ?_)
  · refine v_aload_n C 0 dX8_write_23 rfl rfl ?_
    refine v_aload_n C 1 dX8_write_24 rfl rfl ?_
    refine v_getI C fdX8_19 dX8_write_25 h (fun y3 h => ?_)
    obtain ⟨u4, h1, h⟩ := ob_some h
    obtain ⟨hkd, h1⟩ := kd_some h1
    refine v_gov (rn_V C gcX8_28 (RX8, TX8, 2) rfl rfl (by decide) hkd (mX8_putDigits h1) ⟨rfl, rfl⟩ rfl ⟨Nat.le_of_ble_eq_true rfl, Nat.le_of_ble_eq_true rfl⟩ (rest := []) rfl (Nat.le_of_ble_eq_true rfl) ⟨Nat.le_of_ble_eq_true rfl, Nat.le_of_ble_eq_true rfl⟩ dX8_write_28) ?_
    refine v_sub [(0, .ref (bs + a0)), (1, .ref (bs + a1)), (2, .int x2)] [0, 1, 2] rfl ?_
    exact wX8_write_31 C hin h
  · refine v_aload_n C 0 dX8_write_14 rfl rfl ?_
    refine v_bipush C (42 : Int32) dX8_write_15 (by decide) ?_
    obtain ⟨u19, h1, h⟩ := ob_some h
    obtain ⟨hkd, h1⟩ := kd_some h1
    refine v_gov (rn_V C gcX8_24 (RX8, TX8, 2) rfl rfl (by decide) hkd (mX8_put h1) ⟨rfl, rfl⟩ rfl ⟨Nat.le_of_ble_eq_true rfl, Nat.le_of_ble_eq_true rfl⟩ (rest := []) rfl (Nat.le_of_ble_eq_true rfl) ⟨Nat.le_of_ble_eq_true rfl, Nat.le_of_ble_eq_true rfl⟩ dX8_write_17) ?_
    refine v_goto C 31 dX8_write_20 (by decide) ?_
    refine v_sub [(0, .ref (bs + a0)), (1, .ref (bs + a1)), (2, .int x2)] [0, 1, 2] rfl ?_
    exact wX8_write_31 C hin h
set_option maxRecDepth 100000 in
set_option maxHeartbeats 4000000 in
theorem mX11_ruleText {l : Launch} {D : UD} {bs : Nat} {a0 : Nat} {x1 : Int32} {x2 : Int32} {x3 : Int32} {u0 : UH} {r : Int32} {v : UH} (h : fX11_ruleText a0 x1 x2 x3 u0 = some (r, v)) : Met l yX11_ruleText (wz yX11_ruleText cX11_ruleText 5 (some .int)) rmX11_ruleText (va_Pc [.ref (bs + a0), .int x1, .int x2, .int x3] (uIn D bs u0)) (uQi D bs u0 v r) 0 0 (uA bs u0) := by
  refine uMet (by decide) (Nat.le_of_ble_eq_true rfl) ?_
  intro X tw hX C hin
  have C : uCx X D bs tw cX11_ruleText 5 RX11 (some .int) := C
  have hin : X.2.2.2.2.2.2.2.1.name = "ruleText" := hin
  refine v_L [(0, .ref (bs + a0)), (1, .int x1), (2, .int x2), (3, .int x3)] rfl ?_
  unfold fX11_ruleText at h
  refine v_aload_n C 0 dX11_ruleText_0 rfl rfl ?_
  refine v_iload_n C 1 dX11_ruleText_1 rfl rfl ?_
  refine v_iload_n C 2 dX11_ruleText_2 rfl rfl ?_
  obtain ⟨y1, h1, h⟩ := ob_some h
  obtain ⟨hkd, h1⟩ := kd_some h1
  refine v_goi (rn_V C gcX11_136 (RX11, TX11, 12) rfl rfl (by decide) hkd (mX11_ruleError h1) ⟨rfl, rfl⟩ rfl ⟨Nat.le_of_ble_eq_true rfl, Nat.le_of_ble_eq_true rfl⟩ (rest := []) rfl (Nat.le_of_ble_eq_true rfl) ⟨Nat.le_of_ble_eq_true rfl, Nat.le_of_ble_eq_true rfl⟩ dX11_ruleText_3) ?_
  refine v_istore C [(4, .int y1), (0, .ref (bs + a0)), (1, .int x1), (2, .int x2), (3, .int x3)] dX11_ruleText_6 (by decide) rfl ?_
  refine v_iload C 0 dX11_ruleText_8 rfl ?_
  refine v_ifeq C 16 dX11_ruleText_10 (by decide) h (fun _ h => ?_) (fun _ h => ?_)
  · refine v_iload_n C 4 dX11_ruleText_16 rfl rfl ?_
    refine v_ifge C 23 dX11_ruleText_17 (by decide) h (fun _ h => ?_) (fun _ h => ?_)
    · refine v_aload_n C 1 dX11_ruleText_23 rfl rfl ?_
      refine v_getR C fdX11_65 dX11_ruleText_24 h (fun b2 h => ?_)
      refine v_aload_n C 1 dX11_ruleText_27 rfl rfl ?_
      refine v_getR C fdX11_14 dX11_ruleText_28 h (fun b3 h => ?_)
      refine v_getR C fdX11_142 dX11_ruleText_31 h (fun b4 h => ?_)
      refine v_iload_n C 2 dX11_ruleText_34 rfl rfl ?_
      refine v_ldR C 26 _ rfl (by decide) dX11_ruleText_35 h (fun b5 h => ?_)
      refine v_getR C fdX11_146 dX11_ruleText_36 h (fun b6 h => ?_)
      refine v_iload_n C 3 dX11_ruleText_39 rfl rfl ?_
      refine v_ldR C 25 _ rfl (by decide) dX11_ruleText_40 h (fun b7 h => ?_)
      refine v_aload_n C 1 dX11_ruleText_41 rfl rfl ?_
      refine v_getR C fdX11_14 dX11_ruleText_42 h (fun b8 h => ?_)
      refine v_getI C fdX11_84 dX11_ruleText_45 h (fun y9 h => ?_)
      obtain ⟨u10, h1, h⟩ := ob_some h
      obtain ⟨hkd, h1⟩ := kd_some h1
      refine v_gov (rn_V C gcX11_332 (RX8, TX8, 2) rfl rfl (by decide) hkd (mX8_write h1) ⟨rfl, rfl⟩ rfl ⟨Nat.le_of_ble_eq_true rfl, Nat.le_of_ble_eq_true rfl⟩ (rest := []) rfl (Nat.le_of_ble_eq_true rfl) ⟨Nat.le_of_ble_eq_true rfl, Nat.le_of_ble_eq_true rfl⟩ dX11_ruleText_48) ?_
      refine v_iload_n C 4 dX11_ruleText_51 rfl rfl ?_
      refine v_aload_n C 1 dX11_ruleText_52 rfl rfl ?_
      refine v_getR C fdX11_65 dX11_ruleText_53 h (fun b11 h => ?_)
      refine v_getI C fdX11_336 dX11_ruleText_56 h (fun y12 h => ?_)
      refine v_icmpge C 74 dX11_ruleText_59 (by decide) h (fun _ h => ?_) (fun _ h => ?_)
      · refine v_bipush C (-6 : Int32) dX11_ruleText_74 (by decide) ?_
        exact v_iret C dX11_ruleText_76 (Prod.mk.inj (Option.some.inj h)).2 (Prod.mk.inj (Option.some.inj h)).1
      · refine v_aload_n C 1 dX11_ruleText_62 rfl rfl ?_
        refine v_getR C fdX11_65 dX11_ruleText_63 h (fun b13 h => ?_)
        refine v_getR C fdX11_337 dX11_ruleText_66 h (fun b14 h => ?_)
        refine v_iload_n C 4 dX11_ruleText_69 rfl rfl ?_
        refine v_ldC C dX11_ruleText_70 h (fun y15 h => ?_)
        refine v_goto C 76 dX11_ruleText_71 (by decide) ?_
        exact v_iret C dX11_ruleText_76 (Prod.mk.inj (Option.some.inj h)).2 (Prod.mk.inj (Option.some.inj h)).1
    · refine v_bipush C (-3 : Int32) dX11_ruleText_20 (by decide) ?_
      exact v_iret C dX11_ruleText_22 (Prod.mk.inj (Option.some.inj h)).2 (Prod.mk.inj (Option.some.inj h)).1
  · refine v_iload C 0 dX11_ruleText_13 rfl ?_
    exact v_iret C dX11_ruleText_15 (Prod.mk.inj (Option.some.inj h)).2 (Prod.mk.inj (Option.some.inj h)).1
