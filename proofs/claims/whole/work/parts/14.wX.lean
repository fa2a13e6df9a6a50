set_option maxRecDepth 100000 in
set_option maxHeartbeats 4000000 in
theorem wX4_countRules_B4 {X : UX} {D : UD} {bs tw : Nat} {u0 : UH} {r : Int32} (C : uCx X D bs tw cX4_countRules 3 RX4 (some .int)) (hin : X.2.2.2.2.2.2.2.1.name = "countRules") {a0 : Nat}  {G : Int32 → Prop} {k : Int32 → Int32 → Option Int32} (hk : ∀ (x1 : Int32) (x2 : Int32)  e, k x1 x2  = some e → G e → VV X D bs u0 rmX4_countRules 3 0 0 (MQ X.2.2.2.2.2.2.1 (uQi D bs u0 u0 r) X.2.2.2.2.2.1 X.2.2.2.1 0 0 (uA bs u0)) u0 4 [(0, .ref (bs + a0)), (1, .int x1), (2, .int x2)] []) (hex : ∀ (x1 : Int32) , G x1 → VV X D bs u0 rmX4_countRules 3 0 0 (MQ X.2.2.2.2.2.2.1 (uQi D bs u0 u0 r) X.2.2.2.2.2.1 X.2.2.2.1 0 0 (uA bs u0)) u0 28 [(1, .int x1)] [])  : ∀ (x1 : Int32) (x2 : Int32)  e, fX4_countRules_B4 a0 u0 k x1 x2  = some e → G e → VV X D bs u0 rmX4_countRules 3 0 0 (MQ X.2.2.2.2.2.2.1 (uQi D bs u0 u0 r) X.2.2.2.2.2.1 X.2.2.2.1 0 0 (uA bs u0)) u0 4 [(0, .ref (bs + a0)), (1, .int x1), (2, .int x2)] [] := by
  intro x1 x2  e h g
  unfold fX4_countRules_B4 at h
  refine v_iload_n C 2 dX4_countRules_4 rfl rfl ?_
  refine v_bipush C (6 : Int32) dX4_countRules_5 (by decide) ?_
  refine v_icmpge C 28 dX4_countRules_7 (by decide) h (fun _ h => ?_) (fun _ h => ?_)
  · refine v_sub [(1, .int x1)] [1] rfl ?_
    exact hex x1 ((Option.some.inj h).symm ▸ g)
  · refine v_iload_n C 1 dX4_countRules_10 rfl rfl ?_
    refine v_aload_n C 0 dX4_countRules_11 rfl rfl ?_
    refine v_getR C fdX4_17 dX4_countRules_12 h (fun b1 h => ?_)
    refine v_iload_n C 2 dX4_countRules_15 rfl rfl ?_
    refine v_ldR C 26 _ rfl (by decide) dX4_countRules_16 h (fun b2 h => ?_)
    refine v_getI C fdX4_46 dX4_countRules_17 h (fun y3 h => ?_)
    refine v_iadd C dX4_countRules_20 ?_
    refine v_lti h (fun y4 h => ?_)
    refine v_istore_n C [(1, .int y4), (0, .ref (bs + a0)), (2, .int x2)] dX4_countRules_21 rfl (by decide) rfl ?_
    refine v_iinc C 2 (x2 + (1 : Int32)) [(2, .int (x2 + (1 : Int32))), (1, .int y4), (0, .ref (bs + a0))] dX4_countRules_22 rfl rfl (by decide) rfl ?_
    refine v_goto C 4 dX4_countRules_25 (by decide) ?_
    refine v_sub [(0, .ref (bs + a0)), (1, .int y4), (2, .int (x2 + (1 : Int32)))] [2, 1, 0] rfl ?_
    exact hk y4 (x2 + (1 : Int32)) _ h g
set_option maxRecDepth 100000 in
set_option maxHeartbeats 4000000 in
theorem mX4_countRules {l : Launch} {D : UD} {bs : Nat} {a0 : Nat} {u0 : UH} {r : Int32} (h : fX4_countRules a0 u0 = some r) : Met l yX4_countRules (wz yX4_countRules cX4_countRules 3 (some .int)) rmX4_countRules (va_Pc [.ref (bs + a0)] (uIn D bs u0)) (uQi D bs u0 u0 r) 0 0 (uA bs u0) := by
  refine uMet (by decide) (Nat.le_of_ble_eq_true rfl) ?_
  intro X tw hX C hin
  have C : uCx X D bs tw cX4_countRules 3 RX4 (some .int) := C
  have hin : X.2.2.2.2.2.2.2.1.name = "countRules" := hin
  refine v_L [(0, .ref (bs + a0))] rfl ?_
  unfold fX4_countRules at h
  refine v_iconst C (0 : Int32) dX4_countRules_0 (by decide) ?_
  refine v_istore_n C [(1, .int (0 : Int32)), (0, .ref (bs + a0))] dX4_countRules_1 rfl (by decide) rfl ?_
  refine v_iconst C (0 : Int32) dX4_countRules_2 (by decide) ?_
  refine v_istore_n C [(2, .int (0 : Int32)), (1, .int (0 : Int32)), (0, .ref (bs + a0))] dX4_countRules_3 rfl (by decide) rfl ?_
  refine v_sub [(0, .ref (bs + a0)), (1, .int (0 : Int32)), (2, .int (0 : Int32))] [2, 1, 0] rfl ?_
  refine it2_O (V := fun x1 x2 => VV X D bs u0 rmX4_countRules 3 0 0 (MQ X.2.2.2.2.2.2.1 (uQi D bs u0 u0 r) X.2.2.2.2.2.1 X.2.2.2.1 0 0 (uA bs u0)) u0 4 [(0, .ref (bs + a0)), (1, .int x1), (2, .int x2)] []) h (fun k_ hk_ => wX4_countRules_B4 C hin hk_ ?_ )
  intro z6 h
  try dsimp only [Sum.elim_inl] at h
  refine v_iload_n C 0 dX4_countRules_28 rfl rfl ?_
  exact v_iret C dX4_countRules_29 rfl (Option.some.inj h)
set_option maxRecDepth 100000 in
set_option maxHeartbeats 4000000 in
theorem mX11_count {l : Launch} {D : UD} {bs : Nat} {a0 : Nat} {x1 : Int32} {u0 : UH} {r : Int32} (h : fX11_count a0 x1 u0 = some r) : Met l yX11_count (wz yX11_count cX11_count 2 (some .int)) rmX11_count (va_Pc [.ref (bs + a0), .int x1] (uIn D bs u0)) (uQi D bs u0 u0 r) 0 0 (uA bs u0) := by
  refine uMet (by decide) (Nat.le_of_ble_eq_true rfl) ?_
  intro X tw hX C hin
  have C : uCx X D bs tw cX11_count 2 RX11 (some .int) := C
  have hin : X.2.2.2.2.2.2.2.1.name = "count" := hin
  refine v_L [(0, .ref (bs + a0)), (1, .int x1)] rfl ?_
  unfold fX11_count at h
  refine v_iload_n C 1 dX11_count_0 rfl rfl ?_
  refine v_tsw C 4 dX11_count_1 rfl (by decide) rfl (fun j hj hx off ho => ?_) 73 (by decide) (fun hx => ?_)
  · rcases (show j = 0 ∨ j = 1 ∨ j = 2 ∨ j = 3 ∨ j = 4 by omega) with rfl | rfl | rfl | rfl | rfl
    · refine ⟨36, by cases ho; rfl, ?_⟩
      rw [if_pos hx] at h
      refine v_aload_n C 0 dX11_count_36 rfl rfl ?_
      refine v_getR C fdX11_14 dX11_count_37 h (fun b1 h => ?_)
      refine v_getI C fdX11_84 dX11_count_40 h (fun y2 h => ?_)
      exact v_iret C dX11_count_43 rfl (Option.some.inj h)
    · refine ⟨44, by cases ho; rfl, ?_⟩
      rw [if_neg (by rw [hx]; decide)] at h
      rw [if_pos hx] at h
      refine v_aload_n C 0 dX11_count_44 rfl rfl ?_
      refine v_getR C fdX11_14 dX11_count_45 h (fun b3 h => ?_)
      refine v_getI C fdX11_113 dX11_count_48 h (fun y4 h => ?_)
      exact v_iret C dX11_count_51 rfl (Option.some.inj h)
    · refine ⟨52, by cases ho; rfl, ?_⟩
      rw [if_neg (by rw [hx]; decide)] at h
      rw [if_neg (by rw [hx]; decide)] at h
      rw [if_pos hx] at h
      refine v_aload_n C 0 dX11_count_52 rfl rfl ?_
      refine v_getR C fdX11_14 dX11_count_53 h (fun b5 h => ?_)
      obtain ⟨y6, h1, h⟩ := ob_some h
      obtain ⟨hkd, h1⟩ := kd_some h1
      refine v_goi (rn_V C gcX11_201 (RX4, TX4, 4) rfl rfl (by decide) hkd (mX4_countRules h1) ⟨rfl, rfl⟩ rfl ⟨Nat.le_of_ble_eq_true rfl, Nat.le_of_ble_eq_true rfl⟩ (rest := []) rfl (Nat.le_of_ble_eq_true rfl) ⟨Nat.le_of_ble_eq_true rfl, Nat.le_of_ble_eq_true rfl⟩ dX11_count_56) ?_
      exact v_iret C dX11_count_59 rfl (Option.some.inj h)
    · refine ⟨60, by cases ho; rfl, ?_⟩
      rw [if_neg (by rw [hx]; decide)] at h
      rw [if_neg (by rw [hx]; decide)] at h
      rw [if_neg (by rw [hx]; decide)] at h
      rw [if_pos hx] at h
      refine v_aload_n C 0 dX11_count_60 rfl rfl ?_
      refine v_getI C fdX11_95 dX11_count_61 h (fun y7 h => ?_)
      exact v_iret C dX11_count_64 rfl (Option.some.inj h)
    · refine ⟨65, by cases ho; rfl, ?_⟩
      rw [if_neg (by rw [hx]; decide)] at h
      rw [if_neg (by rw [hx]; decide)] at h
      rw [if_neg (by rw [hx]; decide)] at h
      rw [if_neg (by rw [hx]; decide)] at h
      rw [if_pos hx] at h
      refine v_aload_n C 0 dX11_count_65 rfl rfl ?_
      refine v_getR C fdX11_21 dX11_count_66 h (fun b8 h => ?_)
      refine v_getI C fdX11_92 dX11_count_69 h (fun y9 h => ?_)
      exact v_iret C dX11_count_72 rfl (Option.some.inj h)
  · rw [if_neg (hx 0 (by decide))] at h
    rw [if_neg (hx 1 (by decide))] at h
    rw [if_neg (hx 2 (by decide))] at h
    rw [if_neg (hx 3 (by decide))] at h
    rw [if_neg (hx 4 (by decide))] at h
    refine v_bipush C (-3 : Int32) dX11_count_73 (by decide) ?_
    exact v_iret C dX11_count_75 rfl (Option.some.inj h)
set_option maxRecDepth 100000 in
set_option maxHeartbeats 4000000 in
theorem mX6_taken {l : Launch} {D : UD} {bs : Nat} {a0 : Nat} {x1 : Int32} {x2 : Int64} {u0 : UH} {r : Int64} (h : fX6_taken a0 x1 x2 u0 = some r) : Met l yX6_taken (wz yX6_taken cX6_taken 4 (some .long)) rmX6_taken (va_Pc [.ref (bs + a0), .int x1, .long x2] (uIn D bs u0)) (uQl D bs u0 u0 r) 0 0 (uA bs u0) := by
  refine uMet (by decide) (Nat.le_of_ble_eq_true rfl) ?_
  intro X tw hX C hin
  have C : uCx X D bs tw cX6_taken 4 RX6 (some .long) := C
  have hin : X.2.2.2.2.2.2.2.1.name = "taken" := hin
  refine v_L [(0, .ref (bs + a0)), (1, .int x1), (2, .long x2)] rfl ?_
  unfold fX6_taken at h
  refine v_aload_n C 0 dX6_taken_0 rfl rfl ?_
  refine v_getI C fdX6_30 dX6_taken_1 h (fun y1 h => ?_)
  refine v_ifeq C 27 dX6_taken_4 (by decide) h (fun _ h => ?_) (fun _ h => ?_)
  · refine v_lconst C (0 : Int64) dX6_taken_27 (by decide) ?_
    exact v_lret C dX6_taken_28 rfl (Option.some.inj h)
  · refine v_aload_n C 0 dX6_taken_7 rfl rfl ?_
    refine v_getI C fdX6_9 dX6_taken_8 h (fun y2 h => ?_)
    refine v_iload_n C 1 dX6_taken_11 rfl rfl ?_
    refine v_ishr C dX6_taken_12 ?_
    refine v_iconst C (1 : Int32) dX6_taken_13 (by decide) ?_
    refine v_iand C dX6_taken_14 ?_
    refine v_ifeq C 27 dX6_taken_15 (by decide) h (fun _ h => ?_) (fun _ h => ?_)
    · refine v_lconst C (0 : Int64) dX6_taken_27 (by decide) ?_
      exact v_lret C dX6_taken_28 rfl (Option.some.inj h)
    · refine v_lload_n C 2 dX6_taken_18 rfl rfl ?_
      refine v_aload_n C 0 dX6_taken_19 rfl rfl ?_
      refine v_getJ C fdX6_38 dX6_taken_20 h (fun y3 h => ?_)
      refine v_land C dX6_taken_23 ?_
      refine v_goto C 28 dX6_taken_24 (by decide) ?_
      exact v_lret C dX6_taken_28 rfl (Option.some.inj h)
set_option maxRecDepth 100000 in
set_option maxHeartbeats 4000000 in
theorem wX7_leftFor_B6 {X : UX} {D : UD} {bs tw : Nat} {u0 : UH} {r : Int64} (C : uCx X D bs tw cX7_leftFor 8 RX7 (some .long)) (hin : X.2.2.2.2.2.2.2.1.name = "leftFor") {a0 : Nat} {x1 : Int32} {x2 : Int32}  {G : Int64 → Prop} {k : Int64 → Int32 → Option Int64} (hk : ∀ (x5 : Int64) (x7 : Int32)  e, k x5 x7  = some e → G e → VV X D bs u0 rmX7_leftFor 8 0 0 (MQ X.2.2.2.2.2.2.1 (uQl D bs u0 u0 r) X.2.2.2.2.2.1 X.2.2.2.1 0 0 (uA bs u0)) u0 6 [(0, .ref (bs + a0)), (1, .int x1), (2, .int x2), (5, .long x5), (7, .int x7)] []) (hex : ∀ (x5 : Int64) , G x5 → VV X D bs u0 rmX7_leftFor 8 0 0 (MQ X.2.2.2.2.2.2.1 (uQl D bs u0 u0 r) X.2.2.2.2.2.1 X.2.2.2.1 0 0 (uA bs u0)) u0 40 [(5, .long x5)] [])  : ∀ (x5 : Int64) (x7 : Int32)  e, fX7_leftFor_B6 a0 x1 x2 u0 k x5 x7  = some e → G e → VV X D bs u0 rmX7_leftFor 8 0 0 (MQ X.2.2.2.2.2.2.1 (uQl D bs u0 u0 r) X.2.2.2.2.2.1 X.2.2.2.1 0 0 (uA bs u0)) u0 6 [(0, .ref (bs + a0)), (1, .int x1), (2, .int x2), (5, .long x5), (7, .int x7)] [] := by
  intro x5 x7  e h g
  unfold fX7_leftFor_B6 at h
  refine v_iload C 4 dX7_leftFor_6 rfl ?_
  refine v_iload_n C 1 dX7_leftFor_8 rfl rfl ?_
  refine v_icmpge C 40 dX7_leftFor_9 (by decide) h (fun _ h => ?_) (fun _ h => ?_)
  · refine v_sub [(5, .long x5)] [3] rfl ?_
    exact hex x5 ((Option.some.inj h).symm ▸ g)
  · refine v_lload C 3 dX7_leftFor_12 rfl ?_
    refine v_aload_n C 0 dX7_leftFor_14 rfl rfl ?_
    refine v_getR C fdX7_11 dX7_leftFor_15 h (fun b1 h => ?_)
    refine v_iload C 4 dX7_leftFor_18 rfl ?_
    refine v_ldR C 25 _ rfl (by decide) dX7_leftFor_20 h (fun b2 h => ?_)
    refine v_iload_n C 2 dX7_leftFor_21 rfl rfl ?_
    refine v_lload C 3 dX7_leftFor_22 rfl ?_
    obtain ⟨y3, h1, h⟩ := ob_some h
    obtain ⟨hkd, h1⟩ := kd_some h1
    refine v_gol (rn_V C gcX7_27 (RX6, TX6, 8) rfl rfl (by decide) hkd (mX6_taken h1) ⟨rfl, rfl⟩ rfl ⟨Nat.le_of_ble_eq_true rfl, Nat.le_of_ble_eq_true rfl⟩ (rest := [.long x5]) rfl (Nat.le_of_ble_eq_true rfl) ⟨Nat.le_of_ble_eq_true rfl, Nat.le_of_ble_eq_true rfl⟩ dX7_leftFor_24) ?_
    refine v_ldc2 C (-1 : Int64) tw538 dX7_leftFor_27 ?_
    refine v_lxor C dX7_leftFor_30 ?_
    refine v_land C dX7_leftFor_31 ?_
    refine v_ltl h (fun y4 h => ?_)
    refine v_lstore C [(5, .long y4), (0, .ref (bs + a0)), (1, .int x1), (2, .int x2), (7, .int x7)] dX7_leftFor_32 (by decide) rfl ?_
    refine v_iinc C 4 (x7 + (1 : Int32)) [(7, .int (x7 + (1 : Int32))), (5, .long y4), (0, .ref (bs + a0)), (1, .int x1), (2, .int x2)] dX7_leftFor_34 rfl rfl (by decide) rfl ?_
    refine v_goto C 6 dX7_leftFor_37 (by decide) ?_
    refine v_sub [(0, .ref (bs + a0)), (1, .int x1), (2, .int x2), (5, .long y4), (7, .int (x7 + (1 : Int32)))] [2, 3, 4, 1, 0] rfl ?_
    exact hk y4 (x7 + (1 : Int32)) _ h g
set_option maxRecDepth 100000 in
set_option maxHeartbeats 4000000 in
theorem mX7_leftFor {l : Launch} {D : UD} {bs : Nat} {a0 : Nat} {x1 : Int32} {x2 : Int32} {x3 : Int64} {u0 : UH} {r : Int64} (h : fX7_leftFor a0 x1 x2 x3 u0 = some r) : Met l yX7_leftFor (wz yX7_leftFor cX7_leftFor 8 (some .long)) rmX7_leftFor (va_Pc [.ref (bs + a0), .int x1, .int x2, .long x3] (uIn D bs u0)) (uQl D bs u0 u0 r) 0 0 (uA bs u0) := by
  refine uMet (by decide) (Nat.le_of_ble_eq_true rfl) ?_
  intro X tw hX C hin
  have C : uCx X D bs tw cX7_leftFor 8 RX7 (some .long) := C
  have hin : X.2.2.2.2.2.2.2.1.name = "leftFor" := hin
  refine v_L [(0, .ref (bs + a0)), (1, .int x1), (2, .int x2), (3, .long x3)] rfl ?_
  unfold fX7_leftFor at h
  refine v_lload_n C 3 dX7_leftFor_0 rfl rfl ?_
  refine v_lstore C [(5, .long x3), (0, .ref (bs + a0)), (1, .int x1), (2, .int x2), (3, .long x3)] dX7_leftFor_1 (by decide) rfl ?_
  refine v_iconst C (0 : Int32) dX7_leftFor_3 (by decide) ?_
  refine v_istore C [(7, .int (0 : Int32)), (5, .long x3), (0, .ref (bs + a0)), (1, .int x1), (2, .int x2), (3, .long x3)] dX7_leftFor_4 (by decide) rfl ?_
  refine v_sub [(0, .ref (bs + a0)), (1, .int x1), (2, .int x2), (5, .long x3), (7, .int (0 : Int32))] [2, 3, 4, 1, 0] rfl ?_
  refine it2_O (V := fun x5 x7 => VV X D bs u0 rmX7_leftFor 8 0 0 (MQ X.2.2.2.2.2.2.1 (uQl D bs u0 u0 r) X.2.2.2.2.2.1 X.2.2.2.1 0 0 (uA bs u0)) u0 6 [(0, .ref (bs + a0)), (1, .int x1), (2, .int x2), (5, .long x5), (7, .int x7)] []) h (fun k_ hk_ => wX7_leftFor_B6 C hin hk_ ?_ )
  intro z6 h
  try dsimp only [Sum.elim_inl] at h
  refine v_lload C 0 dX7_leftFor_40 rfl ?_
  exact v_lret C dX7_leftFor_42 rfl (Option.some.inj h)
set_option maxRecDepth 100000 in
set_option maxHeartbeats 4000000 in
theorem mX7_handled {l : Launch} {D : UD} {bs : Nat} {a0 : Nat} {x1 : Int32} {x2 : Int32} {x3 : Int64} {u0 : UH} {r : Int64} (h : fX7_handled a0 x1 x2 x3 u0 = some r) : Met l yX7_handled (wz yX7_handled cX7_handled 5 (some .long)) rmX7_handled (va_Pc [.ref (bs + a0), .int x1, .int x2, .long x3] (uIn D bs u0)) (uQl D bs u0 u0 r) 0 0 (uA bs u0) := by
  refine uMet (by decide) (Nat.le_of_ble_eq_true rfl) ?_
  intro X tw hX C hin
  have C : uCx X D bs tw cX7_handled 5 RX7 (some .long) := C
  have hin : X.2.2.2.2.2.2.2.1.name = "handled" := hin
  refine v_L [(0, .ref (bs + a0)), (1, .int x1), (2, .int x2), (3, .long x3)] rfl ?_
  unfold fX7_handled at h
  refine v_aload_n C 0 dX7_handled_0 rfl rfl ?_
  refine v_getR C fdX7_11 dX7_handled_1 h (fun b1 h => ?_)
  refine v_iload_n C 1 dX7_handled_4 rfl rfl ?_
  refine v_ldR C 25 _ rfl (by decide) dX7_handled_5 h (fun b2 h => ?_)
  refine v_iload_n C 2 dX7_handled_6 rfl rfl ?_
  refine v_aload_n C 0 dX7_handled_7 rfl rfl ?_
  refine v_iload_n C 1 dX7_handled_8 rfl rfl ?_
  refine v_iload_n C 2 dX7_handled_9 rfl rfl ?_
  refine v_lload_n C 3 dX7_handled_10 rfl rfl ?_
  obtain ⟨y3, h1, h⟩ := ob_some h
  obtain ⟨hkd, h1⟩ := kd_some h1
  refine v_gol (rn_V C gcX7_33 (RX7, TX7, 2) rfl rfl (by decide) hkd (mX7_leftFor h1) ⟨rfl, rfl⟩ rfl ⟨Nat.le_of_ble_eq_true rfl, Nat.le_of_ble_eq_true rfl⟩ (rest := [.int x2, .ref (bs + b2)]) rfl (Nat.le_of_ble_eq_true rfl) ⟨Nat.le_of_ble_eq_true rfl, Nat.le_of_ble_eq_true rfl⟩ dX7_handled_11) ?_
  obtain ⟨y4, h1, h⟩ := ob_some h
  obtain ⟨hkd, h1⟩ := kd_some h1
  refine v_gol (rn_V C gcX7_27 (RX6, TX6, 8) rfl rfl (by decide) hkd (mX6_taken h1) ⟨rfl, rfl⟩ rfl ⟨Nat.le_of_ble_eq_true rfl, Nat.le_of_ble_eq_true rfl⟩ (rest := []) rfl (Nat.le_of_ble_eq_true rfl) ⟨Nat.le_of_ble_eq_true rfl, Nat.le_of_ble_eq_true rfl⟩ dX7_handled_14) ?_
  exact v_lret C dX7_handled_17 rfl (Option.some.inj h)
set_option maxRecDepth 100000 in
set_option maxHeartbeats 4000000 in
theorem wX7_isHidden_B2 {X : UX} {D : UD} {bs tw : Nat} {u0 : UH} {r : Int32} (C : uCx X D bs tw cX7_isHidden 3 RX7 (some .boolean)) (hin : X.2.2.2.2.2.2.2.1.name = "isHidden") {a0 : Nat} {x1 : Int32}  {G : (Unit ⊕ Int32) → Prop} {k : Int32 → Option (Unit ⊕ Int32)} (hk : ∀ (x2 : Int32)  e, k x2  = some e → G e → VV X D bs u0 rmX7_isHidden 3 0 0 (MQ X.2.2.2.2.2.2.1 (uQi D bs u0 u0 r) X.2.2.2.2.2.1 X.2.2.2.1 0 0 (uA bs u0)) u0 2 [(0, .ref (bs + a0)), (1, .int x1), (2, .int x2)] []) (hex : G (Sum.inl ()) → VV X D bs u0 rmX7_isHidden 3 0 0 (MQ X.2.2.2.2.2.2.1 (uQi D bs u0 u0 r) X.2.2.2.2.2.1 X.2.2.2.1 0 0 (uA bs u0)) u0 35 [] []) (hret : ∀ x, G (Sum.inr x) → x = r) : ∀ (x2 : Int32)  e, fX7_isHidden_B2 a0 x1 u0 k x2  = some e → G e → VV X D bs u0 rmX7_isHidden 3 0 0 (MQ X.2.2.2.2.2.2.1 (uQi D bs u0 u0 r) X.2.2.2.2.2.1 X.2.2.2.1 0 0 (uA bs u0)) u0 2 [(0, .ref (bs + a0)), (1, .int x1), (2, .int x2)] [] := by
  intro x2  e h g
  unfold fX7_isHidden_B2 at h
  refine v_iload_n C 2 dX7_isHidden_2 rfl rfl ?_
  refine v_iconst C (4 : Int32) dX7_isHidden_3 (by decide) ?_
  refine v_icmpge C 35 dX7_isHidden_4 (by decide) h (fun _ h => ?_) (fun _ h => ?_)
  · refine v_sub [] [] rfl ?_
    exact hex ((Option.some.inj h).symm ▸ g)
  · refine v_aload_n C 0 dX7_isHidden_7 rfl rfl ?_
    refine v_iload_n C 1 dX7_isHidden_8 rfl rfl ?_
    refine v_iload_n C 2 dX7_isHidden_9 rfl rfl ?_
    refine v_aload_n C 0 dX7_isHidden_10 rfl rfl ?_
    refine v_getR C fdX7_11 dX7_isHidden_11 h (fun b1 h => ?_)
    refine v_iload_n C 1 dX7_isHidden_14 rfl rfl ?_
    refine v_ldR C 25 _ rfl (by decide) dX7_isHidden_15 h (fun b2 h => ?_)
    refine v_getJ C fdX7_45 dX7_isHidden_16 h (fun y3 h => ?_)
    obtain ⟨y4, h1, h⟩ := ob_some h
    obtain ⟨hkd, h1⟩ := kd_some h1
    refine v_gol (rn_V C gcX7_49 (RX7, TX7, 2) rfl rfl (by decide) hkd (mX7_handled h1) ⟨rfl, rfl⟩ rfl ⟨Nat.le_of_ble_eq_true rfl, Nat.le_of_ble_eq_true rfl⟩ (rest := []) rfl (Nat.le_of_ble_eq_true rfl) ⟨Nat.le_of_ble_eq_true rfl, Nat.le_of_ble_eq_true rfl⟩ dX7_isHidden_19) ?_
    refine v_lconst C (0 : Int64) dX7_isHidden_22 (by decide) ?_
    refine v_lcmpeq C 29 dX7_isHidden_23 dX7_isHidden_24 (by decide) h (fun _ h => ?_) (fun _ h => ?_)
    · refine v_iinc C 2 (x2 + (1 : Int32)) [(2, .int (x2 + (1 : Int32))), (0, .ref (bs + a0)), (1, .int x1)] dX7_isHidden_29 rfl rfl (by decide) rfl ?_
      refine v_goto C 2 dX7_isHidden_32 (by decide) ?_
      refine v_sub [(0, .ref (bs + a0)), (1, .int x1), (2, .int (x2 + (1 : Int32)))] [1, 2, 0] rfl ?_
      exact hk (x2 + (1 : Int32)) _ h g
    · refine v_iconst C (0 : Int32) dX7_isHidden_27 (by decide) ?_
      have h := hret (0 : Int32) ((Option.some.inj h).symm ▸ g)
      exact v_zret C dX7_isHidden_28 rfl h rfl
set_option maxRecDepth 100000 in
set_option maxHeartbeats 4000000 in
theorem mX7_isHidden {l : Launch} {D : UD} {bs : Nat} {a0 : Nat} {x1 : Int32} {u0 : UH} {r : Int32} (h : fX7_isHidden a0 x1 u0 = some r) : Met l yX7_isHidden (wz yX7_isHidden cX7_isHidden 3 (some .boolean)) rmX7_isHidden (va_Pc [.ref (bs + a0), .int x1] (uIn D bs u0)) (uQi D bs u0 u0 r) 0 0 (uA bs u0) := by
  refine uMet (by decide) (Nat.le_of_ble_eq_true rfl) ?_
  intro X tw hX C hin
  have C : uCx X D bs tw cX7_isHidden 3 RX7 (some .boolean) := C
  have hin : X.2.2.2.2.2.2.2.1.name = "isHidden" := hin
  refine v_L [(0, .ref (bs + a0)), (1, .int x1)] rfl ?_
  unfold fX7_isHidden at h
  refine v_iconst C (0 : Int32) dX7_isHidden_0 (by decide) ?_
  refine v_istore_n C [(2, .int (0 : Int32)), (0, .ref (bs + a0)), (1, .int x1)] dX7_isHidden_1 rfl (by decide) rfl ?_
  refine v_sub [(0, .ref (bs + a0)), (1, .int x1), (2, .int (0 : Int32))] [1, 2, 0] rfl ?_
  refine it1_S (V := fun x2 => VV X D bs u0 rmX7_isHidden 3 0 0 (MQ X.2.2.2.2.2.2.1 (uQi D bs u0 u0 r) X.2.2.2.2.2.1 X.2.2.2.1 0 0 (uA bs u0)) u0 2 [(0, .ref (bs + a0)), (1, .int x1), (2, .int x2)] []) h (fun k_ hk_ => wX7_isHidden_B2 C hin hk_ ?_ (fun x hx => Option.some.inj (show some x = some _ from hx)))
  intro h
  try dsimp only [Sum.elim_inl] at h
  refine v_iconst C (1 : Int32) dX7_isHidden_35 (by decide) ?_
  exact v_zret C dX7_isHidden_36 rfl (Option.some.inj h) rfl
set_option maxRecDepth 100000 in
set_option maxHeartbeats 4000000 in
theorem wX7_hiddenRules_B4 {X : UX} {D : UD} {bs tw : Nat} {u0 : UH} {r : Int32} (C : uCx X D bs tw cX7_hiddenRules 3 RX7 (some .int)) (hin : X.2.2.2.2.2.2.2.1.name = "hiddenRules") {a0 : Nat}  {G : Int32 → Prop} {k : Int32 → Int32 → Option Int32} (hk : ∀ (x1 : Int32) (x2 : Int32)  e, k x1 x2  = some e → G e → VV X D bs u0 rmX7_hiddenRules 3 0 0 (MQ X.2.2.2.2.2.2.1 (uQi D bs u0 u0 r) X.2.2.2.2.2.1 X.2.2.2.1 0 0 (uA bs u0)) u0 4 [(0, .ref (bs + a0)), (1, .int x1), (2, .int x2)] []) (hex : ∀ (x1 : Int32) , G x1 → VV X D bs u0 rmX7_hiddenRules 3 0 0 (MQ X.2.2.2.2.2.2.1 (uQi D bs u0 u0 r) X.2.2.2.2.2.1 X.2.2.2.1 0 0 (uA bs u0)) u0 44 [(1, .int x1)] [])  : ∀ (x1 : Int32) (x2 : Int32)  e, fX7_hiddenRules_B4 a0 u0 k x1 x2  = some e → G e → VV X D bs u0 rmX7_hiddenRules 3 0 0 (MQ X.2.2.2.2.2.2.1 (uQi D bs u0 u0 r) X.2.2.2.2.2.1 X.2.2.2.1 0 0 (uA bs u0)) u0 4 [(0, .ref (bs + a0)), (1, .int x1), (2, .int x2)] [] := by
  intro x1 x2  e h g
  unfold fX7_hiddenRules_B4 at h
  refine v_iload_n C 2 dX7_hiddenRules_4 rfl rfl ?_
  refine v_aload_n C 0 dX7_hiddenRules_5 rfl rfl ?_
  refine v_getI C fdX7_17 dX7_hiddenRules_6 h (fun y1 h => ?_)
  refine v_icmpge C 44 dX7_hiddenRules_9 (by decide) h (fun _ h => ?_) (fun _ h => ?_)
  · refine v_sub [(1, .int x1)] [1] rfl ?_
    exact hex x1 ((Option.some.inj h).symm ▸ g)
  · refine v_aload_n C 0 dX7_hiddenRules_12 rfl rfl ?_
    refine v_getR C fdX7_11 dX7_hiddenRules_13 h (fun b2 h => ?_)
    refine v_iload_n C 2 dX7_hiddenRules_16 rfl rfl ?_
    refine v_ldR C 25 _ rfl (by decide) dX7_hiddenRules_17 h (fun b3 h => ?_)
    refine v_getI C fdX7_37 dX7_hiddenRules_18 h (fun y4 h => ?_)
    refine v_ifeq C 38 dX7_hiddenRules_21 (by decide) h (fun _ h => ?_) (fun _ h => ?_)
    · refine v_iinc C 2 (x2 + (1 : Int32)) [(2, .int (x2 + (1 : Int32))), (0, .ref (bs + a0)), (1, .int x1)] dX7_hiddenRules_38 rfl rfl (by decide) rfl ?_
      refine v_goto C 4 dX7_hiddenRules_41 (by decide) ?_
      refine v_sub [(0, .ref (bs + a0)), (1, .int x1), (2, .int (x2 + (1 : Int32)))] [1, 2, 0] rfl ?_
      exact hk x1 (x2 + (1 : Int32)) _ h g
    · refine v_aload_n C 0 dX7_hiddenRules_24 rfl rfl ?_
      refine v_iload_n C 2 dX7_hiddenRules_25 rfl rfl ?_
      obtain ⟨y5, h1, h⟩ := ob_some h
      obtain ⟨hkd, h1⟩ := kd_some h1
      refine v_goi (rn_V C gcX7_41 (RX7, TX7, 2) rfl rfl (by decide) hkd (mX7_isHidden h1) ⟨rfl, rfl⟩ rfl ⟨Nat.le_of_ble_eq_true rfl, Nat.le_of_ble_eq_true rfl⟩ (rest := []) rfl (Nat.le_of_ble_eq_true rfl) ⟨Nat.le_of_ble_eq_true rfl, Nat.le_of_ble_eq_true rfl⟩ dX7_hiddenRules_26) ?_
      refine v_ifeq C 38 dX7_hiddenRules_29 (by decide) h (fun _ h => ?_) (fun _ h => ?_)
      · refine v_iinc C 2 (x2 + (1 : Int32)) [(2, .int (x2 + (1 : Int32))), (0, .ref (bs + a0)), (1, .int x1)] dX7_hiddenRules_38 rfl rfl (by decide) rfl ?_
        refine v_goto C 4 dX7_hiddenRules_41 (by decide) ?_
        refine v_sub [(0, .ref (bs + a0)), (1, .int x1), (2, .int (x2 + (1 : Int32)))] [1, 2, 0] rfl ?_
        exact hk x1 (x2 + (1 : Int32)) _ h g
      · refine v_iload_n C 1 dX7_hiddenRules_32 rfl rfl ?_
        refine v_iconst C (1 : Int32) dX7_hiddenRules_33 (by decide) ?_
        refine v_iload_n C 2 dX7_hiddenRules_34 rfl rfl ?_
        refine v_ishl C dX7_hiddenRules_35 ?_
        refine v_ior C dX7_hiddenRules_36 ?_
        refine v_lti h (fun y6 h => ?_)
        refine v_istore_n C [(1, .int y6), (0, .ref (bs + a0)), (2, .int x2)] dX7_hiddenRules_37 rfl (by decide) rfl ?_
        refine v_iinc C 2 (x2 + (1 : Int32)) [(2, .int (x2 + (1 : Int32))), (1, .int y6), (0, .ref (bs + a0))] dX7_hiddenRules_38 rfl rfl (by decide) rfl ?_
        refine v_goto C 4 dX7_hiddenRules_41 (by decide) ?_
        refine v_sub [(0, .ref (bs + a0)), (1, .int y6), (2, .int (x2 + (1 : Int32)))] [2, 1, 0] rfl ?_
        exact hk y6 (x2 + (1 : Int32)) _ h g
set_option maxRecDepth 100000 in
set_option maxHeartbeats 4000000 in
theorem mX7_hiddenRules {l : Launch} {D : UD} {bs : Nat} {a0 : Nat} {u0 : UH} {r : Int32} (h : fX7_hiddenRules a0 u0 = some r) : Met l yX7_hiddenRules (wz yX7_hiddenRules cX7_hiddenRules 3 (some .int)) rmX7_hiddenRules (va_Pc [.ref (bs + a0)] (uIn D bs u0)) (uQi D bs u0 u0 r) 0 0 (uA bs u0) := by
  refine uMet (by decide) (Nat.le_of_ble_eq_true rfl) ?_
  intro X tw hX C hin
  have C : uCx X D bs tw cX7_hiddenRules 3 RX7 (some .int) := C
  have hin : X.2.2.2.2.2.2.2.1.name = "hiddenRules" := hin
  refine v_L [(0, .ref (bs + a0))] rfl ?_
  unfold fX7_hiddenRules at h
  refine v_iconst C (0 : Int32) dX7_hiddenRules_0 (by decide) ?_
  refine v_istore_n C [(1, .int (0 : Int32)), (0, .ref (bs + a0))] dX7_hiddenRules_1 rfl (by decide) rfl ?_
  refine v_iconst C (0 : Int32) dX7_hiddenRules_2 (by decide) ?_
  refine v_istore_n C [(2, .int (0 : Int32)), (1, .int (0 : Int32)), (0, .ref (bs + a0))] dX7_hiddenRules_3 rfl (by decide) rfl ?_
  refine v_sub [(0, .ref (bs + a0)), (1, .int (0 : Int32)), (2, .int (0 : Int32))] [2, 1, 0] rfl ?_
  refine it2_O (V := fun x1 x2 => VV X D bs u0 rmX7_hiddenRules 3 0 0 (MQ X.2.2.2.2.2.2.1 (uQi D bs u0 u0 r) X.2.2.2.2.2.1 X.2.2.2.1 0 0 (uA bs u0)) u0 4 [(0, .ref (bs + a0)), (1, .int x1), (2, .int x2)] []) h (fun k_ hk_ => wX7_hiddenRules_B4 C hin hk_ ?_ )
  intro z8 h
  try dsimp only [Sum.elim_inl] at h
  refine v_iload_n C 0 dX7_hiddenRules_44 rfl rfl ?_
  exact v_iret C dX7_hiddenRules_45 rfl (Option.some.inj h)
set_option maxRecDepth 100000 in
set_option maxHeartbeats 4000000 in
theorem mX11_shadowed {l : Launch} {D : UD} {bs : Nat} {a0 : Nat} {x1 : Int32} {u0 : UH} {r : Int32} (h : fX11_shadowed a0 x1 u0 = some r) : Met l yX11_shadowed (wz yX11_shadowed cX11_shadowed 2 (some .int)) rmX11_shadowed (va_Pc [.ref (bs + a0), .int x1] (uIn D bs u0)) (uQi D bs u0 u0 r) 0 0 (uA bs u0) := by
  refine uMet (by decide) (Nat.le_of_ble_eq_true rfl) ?_
  intro X tw hX C hin
  have C : uCx X D bs tw cX11_shadowed 2 RX11 (some .int) := C
  have hin : X.2.2.2.2.2.2.2.1.name = "shadowed" := hin
  refine v_L [(0, .ref (bs + a0)), (1, .int x1)] rfl ?_
  unfold fX11_shadowed at h
  refine v_iload_n C 1 dX11_shadowed_0 rfl rfl ?_
  obtain ⟨y1, h1, h⟩ := ob_some h
  refine v_goi (rn_S C gcX11_116 (mX11_isBox h1) ⟨rfl, rfl⟩ rfl ⟨Nat.le_of_ble_eq_true rfl, Nat.le_of_ble_eq_true rfl⟩ (rest := []) rfl (Nat.le_of_ble_eq_true rfl) ⟨Nat.le_of_ble_eq_true rfl, Nat.le_of_ble_eq_true rfl⟩ dX11_shadowed_1) ?_
  refine v_ifeq C 22 dX11_shadowed_4 (by decide) h (fun _ h => ?_) (fun _ h => ?_)
  · refine v_iconst C (-1 : Int32) dX11_shadowed_22 (by decide) ?_
    exact v_iret C dX11_shadowed_23 rfl (Option.some.inj h)
  · refine v_aload_n C 0 dX11_shadowed_7 rfl rfl ?_
    refine v_getR C fdX11_14 dX11_shadowed_8 h (fun b2 h => ?_)
    refine v_getR C fdX11_142 dX11_shadowed_11 h (fun b3 h => ?_)
    refine v_iload_n C 1 dX11_shadowed_14 rfl rfl ?_
    refine v_ldR C 26 _ rfl (by decide) dX11_shadowed_15 h (fun b4 h => ?_)
    obtain ⟨y5, h1, h⟩ := ob_some h
    obtain ⟨hkd, h1⟩ := kd_some h1
    refine v_goi (rn_V C gcX11_205 (RX7, TX7, 2) rfl rfl (by decide) hkd (mX7_hiddenRules h1) ⟨rfl, rfl⟩ rfl ⟨Nat.le_of_ble_eq_true rfl, Nat.le_of_ble_eq_true rfl⟩ (rest := []) rfl (Nat.le_of_ble_eq_true rfl) ⟨Nat.le_of_ble_eq_true rfl, Nat.le_of_ble_eq_true rfl⟩ dX11_shadowed_16) ?_
    refine v_goto C 23 dX11_shadowed_19 (by decide) ?_
    exact v_iret C dX11_shadowed_23 rfl (Option.some.inj h)
set_option maxRecDepth 100000 in
set_option maxHeartbeats 4000000 in
theorem mJ13_bitCount_95d88 {l : Launch} {D : UD} {bs : Nat} {x0 : Int64} {u0 : UH} {r : Int32} (h : fJ13_bitCount_95d88 x0 u0 = some r) : Met l yJ13_bitCount_95d88 (wz yJ13_bitCount_95d88 cJ13_bitCount_95d88 2 (some .int)) rmJ13_bitCount_95d88 (va_Pc [.long x0] (uIn D bs u0)) (uQi D bs u0 u0 r) 0 0 (uA bs u0) := by
  refine uMet (by decide) (Nat.le_of_ble_eq_true rfl) ?_
  intro X tw hX C hin
  have C : uCx X D bs tw cJ13_bitCount_95d88 2 RJ13 (some .int) := C
  have hin : X.2.2.2.2.2.2.2.1.name = "bitCount" := hin
  refine v_L [(0, .long x0)] rfl ?_
  unfold fJ13_bitCount_95d88 at h
  refine v_lload_n C 0 dJ13_bitCount_95d88_0 rfl rfl ?_
  refine v_lload_n C 0 dJ13_bitCount_95d88_1 rfl rfl ?_
  refine v_iconst C (1 : Int32) dJ13_bitCount_95d88_2 (by decide) ?_
  refine v_lushr C dJ13_bitCount_95d88_3 ?_
  refine v_ldc2 C (6148914691236517205 : Int64) tw547 dJ13_bitCount_95d88_4 ?_
  refine v_land C dJ13_bitCount_95d88_7 ?_
  refine v_lsub C dJ13_bitCount_95d88_8 ?_
  refine v_ltl h (fun y1 h => ?_)
  refine v_lstore_n C [(0, .long y1)] dJ13_bitCount_95d88_9 rfl (by decide) rfl ?_
  refine v_lload_n C 0 dJ13_bitCount_95d88_10 rfl rfl ?_
  refine v_ldc2 C (3689348814741910323 : Int64) tw548 dJ13_bitCount_95d88_11 ?_
  refine v_land C dJ13_bitCount_95d88_14 ?_
  refine v_lload_n C 0 dJ13_bitCount_95d88_15 rfl rfl ?_
  refine v_iconst C (2 : Int32) dJ13_bitCount_95d88_16 (by decide) ?_
  refine v_lushr C dJ13_bitCount_95d88_17 ?_
  refine v_ldc2 C (3689348814741910323 : Int64) tw548 dJ13_bitCount_95d88_18 ?_
  refine v_land C dJ13_bitCount_95d88_21 ?_
  refine v_ladd C dJ13_bitCount_95d88_22 ?_
  refine v_ltl h (fun y2 h => ?_)
  refine v_lstore_n C [(0, .long y2)] dJ13_bitCount_95d88_23 rfl (by decide) rfl ?_
  refine v_lload_n C 0 dJ13_bitCount_95d88_24 rfl rfl ?_
  refine v_lload_n C 0 dJ13_bitCount_95d88_25 rfl rfl ?_
  refine v_iconst C (4 : Int32) dJ13_bitCount_95d88_26 (by decide) ?_
  refine v_lushr C dJ13_bitCount_95d88_27 ?_
  refine v_ladd C dJ13_bitCount_95d88_28 ?_
  refine v_ldc2 C (1085102592571150095 : Int64) tw549 dJ13_bitCount_95d88_29 ?_
  refine v_land C dJ13_bitCount_95d88_32 ?_
  refine v_ltl h (fun y3 h => ?_)
  refine v_lstore_n C [(0, .long y3)] dJ13_bitCount_95d88_33 rfl (by decide) rfl ?_
  refine v_lload_n C 0 dJ13_bitCount_95d88_34 rfl rfl ?_
  refine v_lload_n C 0 dJ13_bitCount_95d88_35 rfl rfl ?_
  refine v_bipush C (8 : Int32) dJ13_bitCount_95d88_36 (by decide) ?_
  refine v_lushr C dJ13_bitCount_95d88_38 ?_
  refine v_ladd C dJ13_bitCount_95d88_39 ?_
  refine v_ltl h (fun y4 h => ?_)
  refine v_lstore_n C [(0, .long y4)] dJ13_bitCount_95d88_40 rfl (by decide) rfl ?_
  refine v_lload_n C 0 dJ13_bitCount_95d88_41 rfl rfl ?_
  refine v_lload_n C 0 dJ13_bitCount_95d88_42 rfl rfl ?_
  refine v_bipush C (16 : Int32) dJ13_bitCount_95d88_43 (by decide) ?_
  refine v_lushr C dJ13_bitCount_95d88_45 ?_
  refine v_ladd C dJ13_bitCount_95d88_46 ?_
  refine v_ltl h (fun y5 h => ?_)
  refine v_lstore_n C [(0, .long y5)] dJ13_bitCount_95d88_47 rfl (by decide) rfl ?_
  refine v_lload_n C 0 dJ13_bitCount_95d88_48 rfl rfl ?_
  refine v_lload_n C 0 dJ13_bitCount_95d88_49 rfl rfl ?_
  refine v_bipush C (32 : Int32) dJ13_bitCount_95d88_50 (by decide) ?_
  refine v_lushr C dJ13_bitCount_95d88_52 ?_
  refine v_ladd C dJ13_bitCount_95d88_53 ?_
  refine v_ltl h (fun y6 h => ?_)
  refine v_lstore_n C [(0, .long y6)] dJ13_bitCount_95d88_54 rfl (by decide) rfl ?_
  refine v_lload_n C 0 dJ13_bitCount_95d88_55 rfl rfl ?_
  refine v_l2i C dJ13_bitCount_95d88_56 ?_
  refine v_bipush C (127 : Int32) dJ13_bitCount_95d88_57 (by decide) ?_
  refine v_iand C dJ13_bitCount_95d88_59 ?_
  exact v_iret C dJ13_bitCount_95d88_60 rfl (Option.some.inj h)
set_option maxRecDepth 100000 in
set_option maxHeartbeats 4000000 in
theorem mX11_inject {l : Launch} {D : UD} {bs : Nat} {a0 : Nat} {x1 : Int32} {x2 : Int32} {x3 : Int32} {x4 : Int32} {u0 : UH} {r : Int32} {v : UH} (h : fX11_inject a0 x1 x2 x3 x4 u0 = some (r, v)) : Met l yX11_inject (wz yX11_inject cX11_inject 5 (some .int)) rmX11_inject (va_Pc [.ref (bs + a0), .int x1, .int x2, .int x3, .int x4] (uIn D bs u0)) (uQi D bs u0 v r) 0 0 (uA bs u0) := by
  refine uMet (by decide) (Nat.le_of_ble_eq_true rfl) ?_
  intro X tw hX C hin
  have C : uCx X D bs tw cX11_inject 5 RX11 (some .int) := C
  have hin : X.2.2.2.2.2.2.2.1.name = "inject" := hin
  refine v_L [(0, .ref (bs + a0)), (1, .int x1), (2, .int x2), (3, .int x3), (4, .int x4)] rfl ?_
  unfold fX11_inject at h
  refine v_iload_n C 1 dX11_inject_0 rfl rfl ?_
  refine v_iload_n C 2 dX11_inject_1 rfl rfl ?_
  obtain ⟨y1, h1, h⟩ := ob_some h
  refine v_goi (rn_S C gcX11_101 (mX11_isPlace h1) ⟨rfl, rfl⟩ rfl ⟨Nat.le_of_ble_eq_true rfl, Nat.le_of_ble_eq_true rfl⟩ (rest := []) rfl (Nat.le_of_ble_eq_true rfl) ⟨Nat.le_of_ble_eq_true rfl, Nat.le_of_ble_eq_true rfl⟩ dX11_inject_2) ?_
  refine v_ifne C 10 dX11_inject_5 (by decide) h (fun _ h => ?_) (fun _ h => ?_)
  · refine v_aload_n C 0 dX11_inject_10 rfl rfl ?_
    refine v_getR C fdX11_14 dX11_inject_11 h (fun b2 h => ?_)
    refine v_iload_n C 3 dX11_inject_14 rfl rfl ?_
    refine v_iload C 4 dX11_inject_15 rfl ?_
    obtain ⟨y3, h1, h⟩ := ob_some h
    obtain ⟨hkd, h1⟩ := kd_some h1
    refine v_goi (rn_V C gcX11_139 (RX4, TX4, 4) rfl rfl (by decide) hkd (mX4_isCube h1) ⟨rfl, rfl⟩ rfl ⟨Nat.le_of_ble_eq_true rfl, Nat.le_of_ble_eq_true rfl⟩ (rest := []) rfl (Nat.le_of_ble_eq_true rfl) ⟨Nat.le_of_ble_eq_true rfl, Nat.le_of_ble_eq_true rfl⟩ dX11_inject_17) ?_
    refine v_ifne C 26 dX11_inject_20 (by decide) h (fun _ h => ?_) (fun _ h => ?_)
    · refine v_aload_n C 0 dX11_inject_26 rfl rfl ?_
      refine v_iload_n C 1 dX11_inject_27 rfl rfl ?_
      refine v_iload_n C 2 dX11_inject_28 rfl rfl ?_
      obtain ⟨y4, h1, h⟩ := ob_some h
      refine v_goi (rn_S C gcX11_105 (mX11_placeOf h1) ⟨rfl, rfl⟩ rfl ⟨Nat.le_of_ble_eq_true rfl, Nat.le_of_ble_eq_true rfl⟩ (rest := [.ref (bs + a0)]) rfl (Nat.le_of_ble_eq_true rfl) ⟨Nat.le_of_ble_eq_true rfl, Nat.le_of_ble_eq_true rfl⟩ dX11_inject_29) ?_
      refine v_putI C fdX11_98 (fun h => by cases h) dX11_inject_32 h (fun u5 h => ?_)
      refine v_aload_n C 0 dX11_inject_35 rfl rfl ?_
      refine v_aload_n C 0 dX11_inject_36 rfl rfl ?_
      refine v_getR C fdX11_14 dX11_inject_37 h (fun b6 h => ?_)
      obtain ⟨y7, h1, h⟩ := ob_some h
      obtain ⟨hkd, h1⟩ := kd_some h1
      refine v_gol (rn_V C gcX11_76 (RX4, TX4, 4) rfl rfl (by decide) hkd (mX4_allHeaders h1) ⟨rfl, rfl⟩ rfl ⟨Nat.le_of_ble_eq_true rfl, Nat.le_of_ble_eq_true rfl⟩ (rest := [.ref (bs + a0)]) rfl (Nat.le_of_ble_eq_true rfl) ⟨Nat.le_of_ble_eq_true rfl, Nat.le_of_ble_eq_true rfl⟩ dX11_inject_40) ?_
      refine v_iload_n C 3 dX11_inject_43 rfl rfl ?_
      refine v_iload C 4 dX11_inject_44 rfl ?_
      obtain ⟨y8, h1, h⟩ := ob_some h
      refine v_gol (rn_S C gcX11_208 (mX11_cubeHeaders h1) ⟨rfl, rfl⟩ rfl ⟨Nat.le_of_ble_eq_true rfl, Nat.le_of_ble_eq_true rfl⟩ (rest := [.long y7, .ref (bs + a0)]) rfl (Nat.le_of_ble_eq_true rfl) ⟨Nat.le_of_ble_eq_true rfl, Nat.le_of_ble_eq_true rfl⟩ dX11_inject_46) ?_
      refine v_land C dX11_inject_49 ?_
      refine v_putJ C fdX11_80 (fun h => by cases h) dX11_inject_50 h (fun u9 h => ?_)
      refine v_aload_n C 0 dX11_inject_53 rfl rfl ?_
      refine v_getJ C fdX11_80 dX11_inject_54 h (fun y10 h => ?_)
      obtain ⟨y11, h1, h⟩ := ob_some h
      refine v_goi (rn_S C gcX11_212 (mJ13_bitCount_95d88 h1) ⟨rfl, rfl⟩ rfl ⟨Nat.le_of_ble_eq_true rfl, Nat.le_of_ble_eq_true rfl⟩ (rest := []) rfl (Nat.le_of_ble_eq_true rfl) ⟨Nat.le_of_ble_eq_true rfl, Nat.le_of_ble_eq_true rfl⟩ dX11_inject_57) ?_
      exact v_iret C dX11_inject_60 (Prod.mk.inj (Option.some.inj h)).2 (Prod.mk.inj (Option.some.inj h)).1
    · refine v_bipush C (-3 : Int32) dX11_inject_23 (by decide) ?_
      exact v_iret C dX11_inject_25 (Prod.mk.inj (Option.some.inj h)).2 (Prod.mk.inj (Option.some.inj h)).1
  · refine v_iconst C (-1 : Int32) dX11_inject_8 (by decide) ?_
    exact v_iret C dX11_inject_9 (Prod.mk.inj (Option.some.inj h)).2 (Prod.mk.inj (Option.some.inj h)).1
set_option maxRecDepth 100000 in
set_option maxHeartbeats 4000000 in
theorem wJ7_fill_d0a16_B6 {X : UX} {D : UD} {bs tw : Nat} {u0 : UH} {v : UH} (C : uCx X D bs tw cJ7_fill_d0a16 5 RJ7 none) (hin : X.2.2.2.2.2.2.2.1.name = "fill") {a0 : Nat} {x1 : Int64} {x4 : Int32}  {G : UH → Prop} {k : Int32 → UH → Option UH} (hk : ∀ (x3 : Int32) (u' : UH) e, k x3 u' = some e → G e → VV X D bs u0 rmJ7_fill_d0a16 5 0 0 (MQ X.2.2.2.2.2.2.1 (uQv D bs u0 v) X.2.2.2.2.2.1 X.2.2.2.1 0 0 (uA bs u0)) u' 6 [(0, .ref (bs + a0)), (1, .long x1), (3, .int x3), (4, .int x4)] []) (hex : ∀  (u' : UH), G u' → VV X D bs u0 rmJ7_fill_d0a16 5 0 0 (MQ X.2.2.2.2.2.2.1 (uQv D bs u0 v) X.2.2.2.2.2.1 X.2.2.2.1 0 0 (uA bs u0)) u' 22 [] [])  : ∀ (x3 : Int32) (u : UH) e, fJ7_fill_d0a16_B6 a0 x1 x4  k x3 u = some e → G e → VV X D bs u0 rmJ7_fill_d0a16 5 0 0 (MQ X.2.2.2.2.2.2.1 (uQv D bs u0 v) X.2.2.2.2.2.1 X.2.2.2.1 0 0 (uA bs u0)) u 6 [(0, .ref (bs + a0)), (1, .long x1), (3, .int x3), (4, .int x4)] [] := by
  intro x3 u e h g
  unfold fJ7_fill_d0a16_B6 at h
  refine v_iload_n C 2 dJ7_fill_d0a16_6 rfl rfl ?_
  refine v_iload C 3 dJ7_fill_d0a16_7 rfl ?_
  refine v_icmpge C 22 dJ7_fill_d0a16_9 (by decide) h (fun _ h => ?_) (fun _ h => ?_)
  · refine v_sub [] [] rfl ?_
    exact hex u ((Option.some.inj h).symm ▸ g)
  · refine v_aload_n C 0 dJ7_fill_d0a16_12 rfl rfl ?_
    refine v_iload_n C 2 dJ7_fill_d0a16_13 rfl rfl ?_
    refine v_lload_n C 1 dJ7_fill_d0a16_14 rfl rfl ?_
    refine v_stJ C dJ7_fill_d0a16_15 h (fun u2 h => ?_)
    refine v_iinc C 2 (x3 + (1 : Int32)) [(3, .int (x3 + (1 : Int32))), (0, .ref (bs + a0)), (1, .long x1), (4, .int x4)] dJ7_fill_d0a16_16 rfl rfl (by decide) rfl ?_
    refine v_goto C 6 dJ7_fill_d0a16_19 (by decide) ?_
    refine v_sub [(0, .ref (bs + a0)), (1, .long x1), (3, .int (x3 + (1 : Int32))), (4, .int x4)] [1, 2, 0, 3] rfl ?_
    exact hk (x3 + (1 : Int32)) u2 _ h g
set_option maxRecDepth 100000 in
set_option maxHeartbeats 4000000 in
theorem mJ7_fill_d0a16 {l : Launch} {D : UD} {bs : Nat} {a0 : Nat} {x1 : Int64} {u0 : UH} {v : UH} (h : fJ7_fill_d0a16 a0 x1 u0 = some v) : Met l yJ7_fill_d0a16 (wz yJ7_fill_d0a16 cJ7_fill_d0a16 5 none) rmJ7_fill_d0a16 (va_Pc [.ref (bs + a0), .long x1] (uIn D bs u0)) (uQv D bs u0 v) 0 0 (uA bs u0) := by
  refine uMet (by decide) (Nat.le_of_ble_eq_true rfl) ?_
  intro X tw hX C hin
  have C : uCx X D bs tw cJ7_fill_d0a16 5 RJ7 none := C
  have hin : X.2.2.2.2.2.2.2.1.name = "fill" := hin
  refine v_L [(0, .ref (bs + a0)), (1, .long x1)] rfl ?_
  unfold fJ7_fill_d0a16 at h
  refine v_iconst C (0 : Int32) dJ7_fill_d0a16_0 (by decide) ?_
  refine v_istore_n C [(3, .int (0 : Int32)), (0, .ref (bs + a0)), (1, .long x1)] dJ7_fill_d0a16_1 rfl (by decide) rfl ?_
  refine v_aload_n C 1 dJ7_fill_d0a16_2 rfl rfl ?_
  refine v_len C 21 _ rfl (by decide) dJ7_fill_d0a16_3 h (fun y1 h => ?_)
  refine v_istore C [(4, .int y1), (3, .int (0 : Int32)), (0, .ref (bs + a0)), (1, .long x1)] dJ7_fill_d0a16_4 (by decide) rfl ?_
  refine v_sub [(0, .ref (bs + a0)), (1, .long x1), (3, .int (0 : Int32)), (4, .int y1)] [2, 3, 1, 0] rfl ?_
  refine it2_O (V := fun x3 u' => VV X D bs u0 rmJ7_fill_d0a16 5 0 0 (MQ X.2.2.2.2.2.2.1 (uQv D bs u0 v) X.2.2.2.2.2.1 X.2.2.2.1 0 0 (uA bs u0)) u' 6 [(0, .ref (bs + a0)), (1, .long x1), (3, .int x3), (4, .int y1)] []) h (fun k_ hk_ => wJ7_fill_d0a16_B6 C hin hk_ ?_ )
  intro z4 h
  try dsimp only [Sum.elim_inl] at h
  exact v_vret C dJ7_fill_d0a16_22 (Option.some.inj h)
set_option maxRecDepth 100000 in
set_option maxHeartbeats 4000000 in
theorem mX2_forget {l : Launch} {D : UD} {bs : Nat} {a0 : Nat} {u0 : UH} {v : UH} (h : fX2_forget a0 u0 = some v) : Met l yX2_forget (wz yX2_forget cX2_forget 1 none) rmX2_forget (va_Pc [.ref (bs + a0)] (uIn D bs u0)) (uQv D bs u0 v) 0 0 (uA bs u0) := by
  refine uMet (by decide) (Nat.le_of_ble_eq_true rfl) ?_
  intro X tw hX C hin
  have C : uCx X D bs tw cX2_forget 1 RX2 none := C
  have hin : X.2.2.2.2.2.2.2.1.name = "forget" := hin
  refine v_L [(0, .ref (bs + a0))] rfl ?_
  unfold fX2_forget at h
  refine v_aload_n C 0 dX2_forget_0 rfl rfl ?_
  refine v_getR C fdX2_9 dX2_forget_1 h (fun b1 h => ?_)
  refine v_lconst C (0 : Int64) dX2_forget_4 (by decide) ?_
  obtain ⟨u2, h1, h⟩ := ob_some h
  refine v_gov (rn_S C gcX2_100 (mJ7_fill_d0a16 h1) ⟨rfl, rfl⟩ rfl ⟨Nat.le_of_ble_eq_true rfl, Nat.le_of_ble_eq_true rfl⟩ (rest := []) rfl (Nat.le_of_ble_eq_true rfl) ⟨Nat.le_of_ble_eq_true rfl, Nat.le_of_ble_eq_true rfl⟩ dX2_forget_5) ?_
  refine v_aload_n C 0 dX2_forget_8 rfl rfl ?_
  refine v_getR C fdX2_15 dX2_forget_9 h (fun b3 h => ?_)
  refine v_lconst C (0 : Int64) dX2_forget_12 (by decide) ?_
  obtain ⟨u4, h1, h⟩ := ob_some h
  refine v_gov (rn_S C gcX2_100 (mJ7_fill_d0a16 h1) ⟨rfl, rfl⟩ rfl ⟨Nat.le_of_ble_eq_true rfl, Nat.le_of_ble_eq_true rfl⟩ (rest := []) rfl (Nat.le_of_ble_eq_true rfl) ⟨Nat.le_of_ble_eq_true rfl, Nat.le_of_ble_eq_true rfl⟩ dX2_forget_13) ?_
  refine v_aload_n C 0 dX2_forget_16 rfl rfl ?_
  refine v_getR C fdX2_18 dX2_forget_17 h (fun b5 h => ?_)
  refine v_lconst C (0 : Int64) dX2_forget_20 (by decide) ?_
  obtain ⟨u6, h1, h⟩ := ob_some h
  refine v_gov (rn_S C gcX2_100 (mJ7_fill_d0a16 h1) ⟨rfl, rfl⟩ rfl ⟨Nat.le_of_ble_eq_true rfl, Nat.le_of_ble_eq_true rfl⟩ (rest := []) rfl (Nat.le_of_ble_eq_true rfl) ⟨Nat.le_of_ble_eq_true rfl, Nat.le_of_ble_eq_true rfl⟩ dX2_forget_21) ?_
  exact v_vret C dX2_forget_24 (Option.some.inj h)
set_option maxRecDepth 100000 in
set_option maxHeartbeats 4000000 in
theorem mX2_enter {l : Launch} {D : UD} {bs : Nat} {a0 : Nat} {x1 : Int32} {x2 : Int64} {u0 : UH} {v : UH} (h : fX2_enter a0 x1 x2 u0 = some v) : Met l yX2_enter (wz yX2_enter cX2_enter 4 none) rmX2_enter (va_Pc [.ref (bs + a0), .int x1, .long x2] (uIn D bs u0)) (uQv D bs u0 v) 0 0 (uA bs u0) := by
  refine uMet (by decide) (Nat.le_of_ble_eq_true rfl) ?_
  intro X tw hX C hin
  have C : uCx X D bs tw cX2_enter 4 RX2 none := C
  have hin : X.2.2.2.2.2.2.2.1.name = "enter" := hin
  refine v_L [(0, .ref (bs + a0)), (1, .int x1), (2, .long x2)] rfl ?_
  unfold fX2_enter at h
  refine v_aload_n C 0 dX2_enter_0 rfl rfl ?_
  refine v_getR C fdX2_15 dX2_enter_1 h (fun b1 h => ?_)
  refine v_iload_n C 1 dX2_enter_4 rfl rfl ?_
  refine v_lload_n C 2 dX2_enter_5 rfl rfl ?_
  refine v_aload_n C 0 dX2_enter_6 rfl rfl ?_
  refine v_getR C fdX2_9 dX2_enter_7 h (fun b2 h => ?_)
  refine v_iload_n C 1 dX2_enter_10 rfl rfl ?_
  refine v_ldJ C dX2_enter_11 h (fun y3 h => ?_)
  refine v_ldc2 C (-1 : Int64) tw570 dX2_enter_12 ?_
  refine v_lxor C dX2_enter_15 ?_
  refine v_land C dX2_enter_16 ?_
  refine v_stJ C dX2_enter_17 h (fun u4 h => ?_)
  refine v_aload_n C 0 dX2_enter_18 rfl rfl ?_
  refine v_getR C fdX2_9 dX2_enter_19 h (fun b5 h => ?_)
  refine v_iload_n C 1 dX2_enter_22 rfl rfl ?_
  refine v_dup2 C dX2_enter_23 rfl rfl ?_
  refine v_ldJ C dX2_enter_24 h (fun y6 h => ?_)
  refine v_lload_n C 2 dX2_enter_25 rfl rfl ?_
  refine v_lor C dX2_enter_26 ?_
  refine v_stJ C dX2_enter_27 h (fun u7 h => ?_)
  exact v_vret C dX2_enter_28 (Option.some.inj h)
set_option maxRecDepth 100000 in
set_option maxHeartbeats 4000000 in
theorem wX6_rewrittenSet_B5 {X : UX} {D : UD} {bs tw : Nat} {u0 : UH} {r : Int64} (C : uCx X D bs tw cX6_rewrittenSet 11 RX6 (some .long)) (hin : X.2.2.2.2.2.2.2.1.name = "rewrittenSet") {a0 : Nat}  {G : Int64 → Prop} {k : Int64 → Int32 → Option Int64} (hk : ∀ (x3 : Int64) (x5 : Int32)  e, k x3 x5  = some e → G e → VV X D bs u0 rmX6_rewrittenSet 11 0 0 (MQ X.2.2.2.2.2.2.1 (uQl D bs u0 u0 r) X.2.2.2.2.2.1 X.2.2.2.1 0 0 (uA bs u0)) u0 5 [(0, .ref (bs + a0)), (3, .long x3), (5, .int x5)] []) (hex : ∀ (x3 : Int64) , G x3 → VV X D bs u0 rmX6_rewrittenSet 11 0 0 (MQ X.2.2.2.2.2.2.1 (uQl D bs u0 u0 r) X.2.2.2.2.2.1 X.2.2.2.1 0 0 (uA bs u0)) u0 91 [(3, .long x3)] [])  : ∀ (x3 : Int64) (x5 : Int32)  e, fX6_rewrittenSet_B5 a0 u0 k x3 x5  = some e → G e → VV X D bs u0 rmX6_rewrittenSet 11 0 0 (MQ X.2.2.2.2.2.2.1 (uQl D bs u0 u0 r) X.2.2.2.2.2.1 X.2.2.2.1 0 0 (uA bs u0)) u0 5 [(0, .ref (bs + a0)), (3, .long x3), (5, .int x5)] [] := by
  intro x3 x5  e h g
  unfold fX6_rewrittenSet_B5 at h
  refine v_iload C 2 dX6_rewrittenSet_5 rfl ?_
  refine v_iconst C (5 : Int32) dX6_rewrittenSet_7 (by decide) ?_
  refine v_icmpge C 91 dX6_rewrittenSet_8 (by decide) h (fun _ h => ?_) (fun _ h => ?_)
  · refine v_sub [(3, .long x3)] [1] rfl ?_
    exact hex x3 ((Option.some.inj h).symm ▸ g)
  · refine v_aload_n C 0 dX6_rewrittenSet_11 rfl rfl ?_
    refine v_getI C fdX6_24 dX6_rewrittenSet_12 h (fun y1 h => ?_)
    refine v_iload C 2 dX6_rewrittenSet_15 rfl ?_
    refine v_ishr C dX6_rewrittenSet_17 ?_
    refine v_iconst C (1 : Int32) dX6_rewrittenSet_18 (by decide) ?_
    refine v_iand C dX6_rewrittenSet_19 ?_
    refine v_ifeq C 85 dX6_rewrittenSet_20 (by decide) h (fun _ h => ?_) (fun _ h => ?_)
    · refine v_iinc C 2 (x5 + (1 : Int32)) [(5, .int (x5 + (1 : Int32))), (0, .ref (bs + a0)), (3, .long x3)] dX6_rewrittenSet_85 rfl rfl (by decide) rfl ?_
      refine v_goto C 5 dX6_rewrittenSet_88 (by decide) ?_
      refine v_sub [(0, .ref (bs + a0)), (3, .long x3), (5, .int (x5 + (1 : Int32)))] [1, 2, 0] rfl ?_
      exact hk x3 (x5 + (1 : Int32)) _ h g
    · refine v_lload_n C 1 dX6_rewrittenSet_23 rfl rfl ?_
      refine v_getsN C tw588 dX6_rewrittenSet_24 ?_
      refine v_iload C 2 dX6_rewrittenSet_27 rfl ?_
      refine v_wb C dX6_rewrittenSet_29 h (fun y2 h => ?_)
      refine v_land C dX6_rewrittenSet_30 ?_
      refine v_ltl h (fun y3 h => ?_)
      refine v_lstore C [(6, .long y3), (0, .ref (bs + a0)), (3, .long x3), (5, .int x5)] dX6_rewrittenSet_31 (by decide) rfl ?_
      refine v_lload_n C 2 dX6_rewrittenSet_33 rfl rfl ?_
      refine v_getsN C tw588 dX6_rewrittenSet_34 ?_
      refine v_iload C 3 dX6_rewrittenSet_37 rfl ?_
      refine v_wb C dX6_rewrittenSet_39 h (fun y4 h => ?_)
      refine v_ldc2 C (-1 : Int64) tw589 dX6_rewrittenSet_40 ?_
      refine v_lxor C dX6_rewrittenSet_43 ?_
      refine v_land C dX6_rewrittenSet_44 ?_
      refine v_ltl h (fun y5 h => ?_)
      refine v_lstore C [(8, .long y5), (6, .long y3), (0, .ref (bs + a0)), (3, .long x3), (5, .int x5)] dX6_rewrittenSet_45 (by decide) rfl ?_
      refine v_iconst C (1 : Int32) dX6_rewrittenSet_47 (by decide) ?_
      refine v_iload C 4 dX6_rewrittenSet_48 rfl ?_
      refine v_ishl C dX6_rewrittenSet_50 ?_
      refine v_lti h (fun y6 h => ?_)
      refine v_istore C [(10, .int y6), (8, .long y5), (6, .long y3), (0, .ref (bs + a0)), (3, .long x3), (5, .int x5)] dX6_rewrittenSet_51 (by decide) rfl ?_
      refine v_aload_n C 3 dX6_rewrittenSet_53 rfl rfl ?_
      refine v_getI C fdX6_27 dX6_rewrittenSet_54 h (fun y7 h => ?_)
      refine v_iload C 5 dX6_rewrittenSet_57 rfl ?_
      refine v_ishr C dX6_rewrittenSet_59 ?_
      refine v_iconst C (1 : Int32) dX6_rewrittenSet_60 (by decide) ?_
      refine v_iand C dX6_rewrittenSet_61 ?_
      refine v_ifeq C 76 dX6_rewrittenSet_62 (by decide) h (fun _ h => ?_) (fun _ h => ?_)
      · refine v_lload C 1 dX6_rewrittenSet_76 rfl ?_
        refine v_lload C 2 dX6_rewrittenSet_78 rfl ?_
        refine v_iload C 0 dX6_rewrittenSet_80 rfl ?_
        refine v_lushr C dX6_rewrittenSet_82 ?_
        refine v_lor C dX6_rewrittenSet_83 ?_
        refine v_ltl h (fun y8 h => ?_)
        refine v_lstore_n C [(3, .long y8), (10, .int y6), (8, .long y5), (6, .long y3), (0, .ref (bs + a0)), (5, .int x5)] dX6_rewrittenSet_84 rfl (by decide) rfl ?_
        refine v_iinc C 5 (x5 + (1 : Int32)) [(5, .int (x5 + (1 : Int32))), (3, .long y8), (10, .int y6), (8, .long y5), (6, .long y3), (0, .ref (bs + a0))] dX6_rewrittenSet_85 rfl rfl (by decide) rfl ?_
        refine v_goto C 5 dX6_rewrittenSet_88 (by decide) ?_
        refine v_sub [(0, .ref (bs + a0)), (3, .long y8), (5, .int (x5 + (1 : Int32)))] [5, 1, 0] rfl ?_
        exact hk y8 (x5 + (1 : Int32)) _ h g
      · refine v_lload C 2 dX6_rewrittenSet_65 rfl ?_
        refine v_lload C 1 dX6_rewrittenSet_67 rfl ?_
        refine v_iload C 0 dX6_rewrittenSet_69 rfl ?_
        refine v_lshl C dX6_rewrittenSet_71 ?_
        refine v_lor C dX6_rewrittenSet_72 ?_
        refine v_goto C 84 dX6_rewrittenSet_73 (by decide) ?_
        refine v_ltl h (fun y9 h => ?_)
        refine v_lstore_n C [(3, .long y9), (10, .int y6), (8, .long y5), (6, .long y3), (0, .ref (bs + a0)), (5, .int x5)] dX6_rewrittenSet_84 rfl (by decide) rfl ?_
        refine v_iinc C 5 (x5 + (1 : Int32)) [(5, .int (x5 + (1 : Int32))), (3, .long y9), (10, .int y6), (8, .long y5), (6, .long y3), (0, .ref (bs + a0))] dX6_rewrittenSet_85 rfl rfl (by decide) rfl ?_
        refine v_goto C 5 dX6_rewrittenSet_88 (by decide) ?_
        refine v_sub [(0, .ref (bs + a0)), (3, .long y9), (5, .int (x5 + (1 : Int32)))] [5, 1, 0] rfl ?_
        exact hk y9 (x5 + (1 : Int32)) _ h g
set_option maxRecDepth 100000 in
set_option maxHeartbeats 4000000 in
theorem mX6_rewrittenSet {l : Launch} {D : UD} {bs : Nat} {a0 : Nat} {x1 : Int64} {u0 : UH} {r : Int64} (h : fX6_rewrittenSet a0 x1 u0 = some r) : Met l yX6_rewrittenSet (wz yX6_rewrittenSet cX6_rewrittenSet 11 (some .long)) rmX6_rewrittenSet (va_Pc [.ref (bs + a0), .long x1] (uIn D bs u0)) (uQl D bs u0 u0 r) 0 0 (uA bs u0) := by
  refine uMet (by decide) (Nat.le_of_ble_eq_true rfl) ?_
  intro X tw hX C hin
  have C : uCx X D bs tw cX6_rewrittenSet 11 RX6 (some .long) := C
  have hin : X.2.2.2.2.2.2.2.1.name = "rewrittenSet" := hin
  refine v_L [(0, .ref (bs + a0)), (1, .long x1)] rfl ?_
  unfold fX6_rewrittenSet at h
  refine v_lload_n C 1 dX6_rewrittenSet_0 rfl rfl ?_
  refine v_lstore_n C [(3, .long x1), (0, .ref (bs + a0)), (1, .long x1)] dX6_rewrittenSet_1 rfl (by decide) rfl ?_
  refine v_iconst C (0 : Int32) dX6_rewrittenSet_2 (by decide) ?_
  refine v_istore C [(5, .int (0 : Int32)), (3, .long x1), (0, .ref (bs + a0)), (1, .long x1)] dX6_rewrittenSet_3 (by decide) rfl ?_
  refine v_sub [(0, .ref (bs + a0)), (3, .long x1), (5, .int (0 : Int32))] [2, 1, 0] rfl ?_
  refine it2_O (V := fun x3 x5 => VV X D bs u0 rmX6_rewrittenSet 11 0 0 (MQ X.2.2.2.2.2.2.1 (uQl D bs u0 u0 r) X.2.2.2.2.2.1 X.2.2.2.1 0 0 (uA bs u0)) u0 5 [(0, .ref (bs + a0)), (3, .long x3), (5, .int x5)] []) h (fun k_ hk_ => wX6_rewrittenSet_B5 C hin hk_ ?_ )
  intro z11 h
  try dsimp only [Sum.elim_inl] at h
  refine v_lload_n C 0 dX6_rewrittenSet_91 rfl rfl ?_
  exact v_lret C dX6_rewrittenSet_92 rfl (Option.some.inj h)
set_option maxRecDepth 100000 in
set_option maxHeartbeats 4000000 in
theorem mX11_hasPort {l : Launch} {D : UD} {bs : Nat} {x0 : Int32} {x1 : Int32} {u0 : UH} {r : Int32} (h : fX11_hasPort x0 x1 u0 = some r) : Met l yX11_hasPort (wz yX11_hasPort cX11_hasPort 2 (some .boolean)) rmX11_hasPort (va_Pc [.int x0, .int x1] (uIn D bs u0)) (uQi D bs u0 u0 r) 0 0 (uA bs u0) := by
  refine uMet (by decide) (Nat.le_of_ble_eq_true rfl) ?_
  intro X tw hX C hin
  have C : uCx X D bs tw cX11_hasPort 2 RX11 (some .boolean) := C
  have hin : X.2.2.2.2.2.2.2.1.name = "hasPort" := hin
  refine v_L [(0, .int x0), (1, .int x1)] rfl ?_
  unfold fX11_hasPort at h
  refine v_iload_n C 0 dX11_hasPort_0 rfl rfl ?_
  refine v_iload_n C 1 dX11_hasPort_1 rfl rfl ?_
  refine v_ishr C dX11_hasPort_2 ?_
  refine v_iconst C (1 : Int32) dX11_hasPort_3 (by decide) ?_
  refine v_iand C dX11_hasPort_4 ?_
  refine v_ifeq C 12 dX11_hasPort_5 (by decide) h (fun _ h => ?_) (fun _ h => ?_)
  · refine v_iconst C (0 : Int32) dX11_hasPort_12 (by decide) ?_
    exact v_zret C dX11_hasPort_13 rfl (Option.some.inj h) rfl
  · refine v_iconst C (1 : Int32) dX11_hasPort_8 (by decide) ?_
    refine v_goto C 13 dX11_hasPort_9 (by decide) ?_
    exact v_zret C dX11_hasPort_13 rfl (Option.some.inj h) rfl
set_option maxRecDepth 100000 in
set_option maxHeartbeats 4000000 in
theorem wX2_sendOut_B3 {X : UX} {D : UD} {bs tw : Nat} {u0 : UH} {v : UH} (C : uCx X D bs tw cX2_sendOut 7 RX2 none) (hin : X.2.2.2.2.2.2.2.1.name = "sendOut") {a0 : Nat} {x1 : Int32} {x2 : Int32} {x3 : Int64}  {G : UH → Prop} {k : Int32 → UH → Option UH} (hk : ∀ (x5 : Int32) (u' : UH) e, k x5 u' = some e → G e → VV X D bs u0 rmX2_sendOut 7 0 0 (MQ X.2.2.2.2.2.2.1 (uQv D bs u0 v) X.2.2.2.2.2.1 X.2.2.2.1 0 0 (uA bs u0)) u' 3 [(0, .ref (bs + a0)), (1, .int x1), (2, .int x2), (3, .long x3), (5, .int x5)] []) (hex : ∀  (u' : UH), G u' → VV X D bs u0 rmX2_sendOut 7 0 0 (MQ X.2.2.2.2.2.2.1 (uQv D bs u0 v) X.2.2.2.2.2.1 X.2.2.2.1 0 0 (uA bs u0)) u' 69 [] [])  : ∀ (x5 : Int32) (u : UH) e, fX2_sendOut_B3 a0 x1 x2 x3  k x5 u = some e → G e → VV X D bs u0 rmX2_sendOut 7 0 0 (MQ X.2.2.2.2.2.2.1 (uQv D bs u0 v) X.2.2.2.2.2.1 X.2.2.2.1 0 0 (uA bs u0)) u 3 [(0, .ref (bs + a0)), (1, .int x1), (2, .int x2), (3, .long x3), (5, .int x5)] [] := by
  intro x5 u e h g
  unfold fX2_sendOut_B3 at h
  refine v_iload C 4 dX2_sendOut_3 rfl ?_
  refine v_iconst C (4 : Int32) dX2_sendOut_5 (by decide) ?_
  refine v_icmpge C 69 dX2_sendOut_6 (by decide) h (fun _ h => ?_) (fun _ h => ?_)
  · refine v_sub [] [] rfl ?_
    exact hex u ((Option.some.inj h).symm ▸ g)
  · refine v_aload_n C 0 dX2_sendOut_9 rfl rfl ?_
    refine v_getR C fdX2_21 dX2_sendOut_10 h (fun b1 h => ?_)
    refine v_getR C fdX2_84 dX2_sendOut_13 h (fun b2 h => ?_)
    refine v_iload_n C 1 dX2_sendOut_16 rfl rfl ?_
    refine v_iload C 4 dX2_sendOut_17 rfl ?_
    obtain ⟨y3, h1, h⟩ := ob_some h
    refine v_goi (rn_N C gcX2_43 (mX11_placeOf h1) ⟨rfl, rfl⟩ rfl ⟨Nat.le_of_ble_eq_true rfl, Nat.le_of_ble_eq_true rfl⟩ (rest := [.ref (bs + b2)]) rfl (Nat.le_of_ble_eq_true rfl) ⟨Nat.le_of_ble_eq_true rfl, Nat.le_of_ble_eq_true rfl⟩ dX2_sendOut_19) ?_
    refine v_ldI C dX2_sendOut_22 h (fun y4 h => ?_)
    refine v_istore C [(6, .int y4), (0, .ref (bs + a0)), (1, .int x1), (2, .int x2), (3, .long x3), (5, .int x5)] dX2_sendOut_23 (by decide) rfl ?_
    refine v_iload_n C 3 dX2_sendOut_25 rfl rfl ?_
    refine v_iload C 5 dX2_sendOut_26 rfl ?_
    obtain ⟨y5, h1, h⟩ := ob_some h
    refine v_goi (rn_N C gcX2_88 (mX11_hasPort h1) ⟨rfl, rfl⟩ rfl ⟨Nat.le_of_ble_eq_true rfl, Nat.le_of_ble_eq_true rfl⟩ (rest := []) rfl (Nat.le_of_ble_eq_true rfl) ⟨Nat.le_of_ble_eq_true rfl, Nat.le_of_ble_eq_true rfl⟩ dX2_sendOut_28) ?_
    refine v_ifeq C 63 dX2_sendOut_31 (by decide) h (fun _ h => ?_) (fun _ h => ?_)
    · refine v_iinc C 5 (x5 + (1 : Int32)) [(5, .int (x5 + (1 : Int32))), (6, .int y4), (0, .ref (bs + a0)), (1, .int x1), (2, .int x2), (3, .long x3)] dX2_sendOut_63 rfl rfl (by decide) rfl ?_
      refine v_goto C 3 dX2_sendOut_66 (by decide) ?_
      refine v_sub [(0, .ref (bs + a0)), (1, .int x1), (2, .int x2), (3, .long x3), (5, .int (x5 + (1 : Int32)))] [2, 3, 4, 5, 0] rfl ?_
      exact hk (x5 + (1 : Int32)) u _ h g
    · refine v_iload C 0 dX2_sendOut_34 rfl ?_
      refine v_iconst C (-1 : Int32) dX2_sendOut_36 (by decide) ?_
      refine v_icmpeq C 63 dX2_sendOut_37 (by decide) h (fun _ h => ?_) (fun _ h => ?_)
      · refine v_iinc C 5 (x5 + (1 : Int32)) [(5, .int (x5 + (1 : Int32))), (6, .int y4), (0, .ref (bs + a0)), (1, .int x1), (2, .int x2), (3, .long x3)] dX2_sendOut_63 rfl rfl (by decide) rfl ?_
        refine v_goto C 3 dX2_sendOut_66 (by decide) ?_
        refine v_sub [(0, .ref (bs + a0)), (1, .int x1), (2, .int x2), (3, .long x3), (5, .int (x5 + (1 : Int32)))] [2, 3, 4, 5, 0] rfl ?_
        exact hk (x5 + (1 : Int32)) u _ h g
      · refine v_aload_n C 1 dX2_sendOut_40 rfl rfl ?_
        refine v_getR C fdX2_18 dX2_sendOut_41 h (fun b6 h => ?_)
        refine v_iload C 0 dX2_sendOut_44 rfl ?_
        refine v_dup2 C dX2_sendOut_46 rfl rfl ?_
        refine v_ldJ C dX2_sendOut_47 h (fun y7 h => ?_)
        refine v_lload_n C 4 dX2_sendOut_48 rfl rfl ?_
        refine v_aload_n C 1 dX2_sendOut_49 rfl rfl ?_
        refine v_getR C fdX2_9 dX2_sendOut_50 h (fun b8 h => ?_)
        refine v_iload C 0 dX2_sendOut_53 rfl ?_
        refine v_ldJ C dX2_sendOut_55 h (fun y9 h => ?_)
        refine v_ldc2 C (-1 : Int64) tw570 dX2_sendOut_56 ?_
        refine v_lxor C dX2_sendOut_59 ?_
        refine v_land C dX2_sendOut_60 ?_
        refine v_lor C dX2_sendOut_61 ?_
        refine v_stJ C dX2_sendOut_62 h (fun u10 h => ?_)
        refine v_iinc C 5 (x5 + (1 : Int32)) [(5, .int (x5 + (1 : Int32))), (6, .int y4), (0, .ref (bs + a0)), (1, .int x1), (2, .int x2), (3, .long x3)] dX2_sendOut_63 rfl rfl (by decide) rfl ?_
        refine v_goto C 3 dX2_sendOut_66 (by decide) ?_
        refine v_sub [(0, .ref (bs + a0)), (1, .int x1), (2, .int x2), (3, .long x3), (5, .int (x5 + (1 : Int32)))] [2, 3, 4, 5, 0] rfl ?_
        exact hk (x5 + (1 : Int32)) u10 _ h g
set_option maxRecDepth 100000 in
set_option maxHeartbeats 4000000 in
theorem mX2_sendOut {l : Launch} {D : UD} {bs : Nat} {a0 : Nat} {x1 : Int32} {x2 : Int32} {x3 : Int64} {u0 : UH} {v : UH} (h : fX2_sendOut a0 x1 x2 x3 u0 = some v) : Met l yX2_sendOut (wz yX2_sendOut cX2_sendOut 7 none) rmX2_sendOut (va_Pc [.ref (bs + a0), .int x1, .int x2, .long x3] (uIn D bs u0)) (uQv D bs u0 v) 0 0 (uA bs u0) := by
  refine uMet (by decide) (Nat.le_of_ble_eq_true rfl) ?_
  intro X tw hX C hin
  have C : uCx X D bs tw cX2_sendOut 7 RX2 none := C
  have hin : X.2.2.2.2.2.2.2.1.name = "sendOut" := hin
  refine v_L [(0, .ref (bs + a0)), (1, .int x1), (2, .int x2), (3, .long x3)] rfl ?_
  unfold fX2_sendOut at h
  refine v_iconst C (0 : Int32) dX2_sendOut_0 (by decide) ?_
  refine v_istore C [(5, .int (0 : Int32)), (0, .ref (bs + a0)), (1, .int x1), (2, .int x2), (3, .long x3)] dX2_sendOut_1 (by decide) rfl ?_
  refine v_sub [(0, .ref (bs + a0)), (1, .int x1), (2, .int x2), (3, .long x3), (5, .int (0 : Int32))] [1, 2, 3, 4, 0] rfl ?_
  refine it2_O (V := fun x5 u' => VV X D bs u0 rmX2_sendOut 7 0 0 (MQ X.2.2.2.2.2.2.1 (uQv D bs u0 v) X.2.2.2.2.2.1 X.2.2.2.1 0 0 (uA bs u0)) u' 3 [(0, .ref (bs + a0)), (1, .int x1), (2, .int x2), (3, .long x3), (5, .int x5)] []) h (fun k_ hk_ => wX2_sendOut_B3 C hin hk_ ?_ )
  intro z12 h
  try dsimp only [Sum.elim_inl] at h
  exact v_vret C dX2_sendOut_69 (Option.some.inj h)
set_option maxRecDepth 100000 in
set_option maxHeartbeats 4000000 in
theorem wX2_handle_B23 {X : UX} {D : UD} {bs tw : Nat} {u0 : UH} {v : UH} (C : uCx X D bs tw cX2_handle 12 RX2 none) (hin : X.2.2.2.2.2.2.2.1.name = "handle") {a0 : Nat} {x1 : Int32} {x4 : Int32} {a5 : Nat}  {G : UH → Prop} {k : Int64 → Int32 → UH → Option UH} (hk : ∀ (x6 : Int64) (x8 : Int32) (u' : UH) e, k x6 x8 u' = some e → G e → VV X D bs u0 rmX2_handle 12 0 0 (MQ X.2.2.2.2.2.2.1 (uQv D bs u0 v) X.2.2.2.2.2.1 X.2.2.2.1 0 0 (uA bs u0)) u' 23 [(0, .ref (bs + a0)), (1, .int x1), (4, .int x4), (5, .ref (bs + a5)), (6, .long x6), (8, .int x8)] []) (hex : ∀  (u' : UH), G u' → VV X D bs u0 rmX2_handle 12 0 0 (MQ X.2.2.2.2.2.2.1 (uQv D bs u0 v) X.2.2.2.2.2.1 X.2.2.2.1 0 0 (uA bs u0)) u' 104 [] [])  : ∀ (x6 : Int64) (x8 : Int32) (u : UH) e, fX2_handle_B23 a0 x1 x4 a5  k x6 x8 u = some e → G e → VV X D bs u0 rmX2_handle 12 0 0 (MQ X.2.2.2.2.2.2.1 (uQv D bs u0 v) X.2.2.2.2.2.1 X.2.2.2.1 0 0 (uA bs u0)) u 23 [(0, .ref (bs + a0)), (1, .int x1), (4, .int x4), (5, .ref (bs + a5)), (6, .long x6), (8, .int x8)] [] := by
  intro x6 x8 u e h g
  unfold fX2_handle_B23 at h
  refine v_iload C 5 dX2_handle_23 rfl ?_
  refine v_aload C 3 dX2_handle_25 rfl ?_
  refine v_getI C fdX2_59 dX2_handle_27 h (fun y5 h => ?_)
  refine v_icmpge C 104 dX2_handle_30 (by decide) h (fun _ h => ?_) (fun _ h => ?_)
  · refine v_sub [] [] rfl ?_
    exact hex u ((Option.some.inj h).symm ▸ g)
  · refine v_lload C 4 dX2_handle_33 rfl ?_
    refine v_lconst C (0 : Int64) dX2_handle_35 (by decide) ?_
    refine v_lcmpeq C 104 dX2_handle_36 dX2_handle_37 (by decide) h (fun _ h => ?_) (fun _ h => ?_)
    · refine v_sub [] [] rfl ?_
      exact hex u ((Option.some.inj h).symm ▸ g)
    · refine v_aload C 3 dX2_handle_40 rfl ?_
      refine v_getR C fdX2_69 dX2_handle_42 h (fun b6 h => ?_)
      refine v_iload C 5 dX2_handle_45 rfl ?_
      refine v_ldR C 25 _ rfl (by decide) dX2_handle_47 h (fun b7 h => ?_)
      refine v_astore C [(9, .ref (bs + b7)), (0, .ref (bs + a0)), (1, .int x1), (4, .int x4), (5, .ref (bs + a5)), (6, .long x6), (8, .int x8)] dX2_handle_48 (by decide) rfl ?_
      refine v_aload C 0 dX2_handle_50 rfl ?_
      refine v_iload_n C 2 dX2_handle_52 rfl rfl ?_
      refine v_iconst C (4 : Int32) dX2_handle_53 (by decide) ?_
      refine v_irem C dX2_handle_54 (by decide) ?_
      refine v_lload C 5 dX2_handle_55 rfl ?_
      obtain ⟨y8, h1, h⟩ := ob_some h
      obtain ⟨hkd, h1⟩ := kd_some h1
      refine v_gol (rn_V C gcX2_111 (RX6, TX6, 8) rfl rfl (by decide) hkd (mX6_taken h1) ⟨rfl, rfl⟩ rfl ⟨Nat.le_of_ble_eq_true rfl, Nat.le_of_ble_eq_true rfl⟩ (rest := []) rfl (Nat.le_of_ble_eq_true rfl) ⟨Nat.le_of_ble_eq_true rfl, Nat.le_of_ble_eq_true rfl⟩ dX2_handle_57) ?_
      refine v_lstore C [(10, .long y8), (9, .ref (bs + b7)), (0, .ref (bs + a0)), (1, .int x1), (4, .int x4), (5, .ref (bs + a5)), (6, .long x6), (8, .int x8)] dX2_handle_60 (by decide) rfl ?_
      refine v_lload C 0 dX2_handle_62 rfl ?_
      refine v_lconst C (0 : Int64) dX2_handle_64 (by decide) ?_
      refine v_lcmpeq C 98 dX2_handle_65 dX2_handle_66 (by decide) h (fun _ h => ?_) (fun _ h => ?_)
      · refine v_iinc C 7 (x8 + (1 : Int32)) [(8, .int (x8 + (1 : Int32))), (10, .long y8), (9, .ref (bs + b7)), (0, .ref (bs + a0)), (1, .int x1), (4, .int x4), (5, .ref (bs + a5)), (6, .long x6)] dX2_handle_98 rfl rfl (by decide) rfl ?_
        refine v_goto C 23 dX2_handle_101 (by decide) ?_
        refine v_sub [(0, .ref (bs + a0)), (1, .int x1), (4, .int x4), (5, .ref (bs + a5)), (6, .long x6), (8, .int (x8 + (1 : Int32)))] [3, 4, 5, 6, 7, 0] rfl ?_
        exact hk x6 (x8 + (1 : Int32)) u _ h g
      · refine v_lload C 6 dX2_handle_69 rfl ?_
        refine v_lload C 0 dX2_handle_71 rfl ?_
        refine v_ldc2 C (-1 : Int64) tw570 dX2_handle_73 ?_
        refine v_lxor C dX2_handle_76 ?_
        refine v_land C dX2_handle_77 ?_
        refine v_ltl h (fun y9 h => ?_)
        refine v_lstore C [(6, .long y9), (10, .long y8), (9, .ref (bs + b7)), (0, .ref (bs + a0)), (1, .int x1), (4, .int x4), (5, .ref (bs + a5)), (8, .int x8)] dX2_handle_78 (by decide) rfl ?_
        refine v_aload_n C 3 dX2_handle_80 rfl rfl ?_
        refine v_iload C 5 dX2_handle_81 rfl ?_
        refine v_aload C 2 dX2_handle_83 rfl ?_
        refine v_getI C fdX2_73 dX2_handle_85 h (fun y10 h => ?_)
        refine v_aload C 2 dX2_handle_88 rfl ?_
        refine v_lload C 1 dX2_handle_90 rfl ?_
        obtain ⟨y11, h1, h⟩ := ob_some h
        obtain ⟨hkd, h1⟩ := kd_some h1
        refine v_gol (rn_V C gcX2_96 (RX6, TX6, 8) rfl rfl (by decide) hkd (mX6_rewrittenSet h1) ⟨rfl, rfl⟩ rfl ⟨Nat.le_of_ble_eq_true rfl, Nat.le_of_ble_eq_true rfl⟩ (rest := [.int y10, .int x4, .ref (bs + a0)]) rfl (Nat.le_of_ble_eq_true rfl) ⟨Nat.le_of_ble_eq_true rfl, Nat.le_of_ble_eq_true rfl⟩ dX2_handle_92) ?_
        obtain ⟨u12, h1, h⟩ := ob_some h
        obtain ⟨hkd, h1⟩ := kd_some h1
        refine v_gov (rn_V C gcX2_115 (RX2, TX2, 4) rfl rfl (by decide) hkd (mX2_sendOut h1) ⟨rfl, rfl⟩ rfl ⟨Nat.le_of_ble_eq_true rfl, Nat.le_of_ble_eq_true rfl⟩ (rest := []) rfl (Nat.le_of_ble_eq_true rfl) ⟨Nat.le_of_ble_eq_true rfl, Nat.le_of_ble_eq_true rfl⟩ dX2_handle_95) ?_
        refine v_iinc C 7 (x8 + (1 : Int32)) [(8, .int (x8 + (1 : Int32))), (6, .long y9), (10, .long y8), (9, .ref (bs + b7)), (0, .ref (bs + a0)), (1, .int x1), (4, .int x4), (5, .ref (bs + a5))] dX2_handle_98 rfl rfl (by decide) rfl ?_
        refine v_goto C 23 dX2_handle_101 (by decide) ?_
        refine v_sub [(0, .ref (bs + a0)), (1, .int x1), (4, .int x4), (5, .ref (bs + a5)), (6, .long y9), (8, .int (x8 + (1 : Int32)))] [4, 5, 6, 7, 1, 0] rfl ?_
        exact hk y9 (x8 + (1 : Int32)) u12 _ h g
set_option maxRecDepth 100000 in
set_option maxHeartbeats 4000000 in
theorem mX2_handle {l : Launch} {D : UD} {bs : Nat} {a0 : Nat} {x1 : Int32} {x2 : Int64} {u0 : UH} {v : UH} (h : fX2_handle a0 x1 x2 u0 = some v) : Met l yX2_handle (wz yX2_handle cX2_handle 12 none) rmX2_handle (va_Pc [.ref (bs + a0), .int x1, .long x2] (uIn D bs u0)) (uQv D bs u0 v) 0 0 (uA bs u0) := by
  refine uMet (by decide) (Nat.le_of_ble_eq_true rfl) ?_
  intro X tw hX C hin
  have C : uCx X D bs tw cX2_handle 12 RX2 none := C
  have hin : X.2.2.2.2.2.2.2.1.name = "handle" := hin
  refine v_L [(0, .ref (bs + a0)), (1, .int x1), (2, .long x2)] rfl ?_
  unfold fX2_handle at h
  refine v_iload_n C 1 dX2_handle_0 rfl rfl ?_
  refine v_iconst C (4 : Int32) dX2_handle_1 (by decide) ?_
  refine v_idiv C dX2_handle_2 (by decide) ?_
  refine v_lti h (fun y1 h => ?_)
  refine v_istore C [(4, .int y1), (0, .ref (bs + a0)), (1, .int x1), (2, .long x2)] dX2_handle_3 (by decide) rfl ?_
  refine v_aload_n C 1 dX2_handle_5 rfl rfl ?_
  refine v_getR C fdX2_21 dX2_handle_6 h (fun b2 h => ?_)
  refine v_getR C fdX2_53 dX2_handle_9 h (fun b3 h => ?_)
  refine v_iload C 0 dX2_handle_12 rfl ?_
  refine v_ldR C 26 _ rfl (by decide) dX2_handle_14 h (fun b4 h => ?_)
  refine v_astore C [(5, .ref (bs + b4)), (4, .int y1), (0, .ref (bs + a0)), (1, .int x1), (2, .long x2)] dX2_handle_15 (by decide) rfl ?_
  refine v_lload_n C 4 dX2_handle_17 rfl rfl ?_
  refine v_lstore C [(6, .long x2), (5, .ref (bs + b4)), (4, .int y1), (0, .ref (bs + a0)), (1, .int x1), (2, .long x2)] dX2_handle_18 (by decide) rfl ?_
  refine v_iconst C (0 : Int32) dX2_handle_20 (by decide) ?_
  refine v_istore C [(8, .int (0 : Int32)), (6, .long x2), (5, .ref (bs + b4)), (4, .int y1), (0, .ref (bs + a0)), (1, .int x1), (2, .long x2)] dX2_handle_21 (by decide) rfl ?_
  refine v_sub [(0, .ref (bs + a0)), (1, .int x1), (4, .int y1), (5, .ref (bs + b4)), (6, .long x2), (8, .int (0 : Int32))] [4, 5, 3, 2, 1, 0] rfl ?_
  refine it3_O (V := fun x6 x8 u' => VV X D bs u0 rmX2_handle 12 0 0 (MQ X.2.2.2.2.2.2.1 (uQv D bs u0 v) X.2.2.2.2.2.1 X.2.2.2.1 0 0 (uA bs u0)) u' 23 [(0, .ref (bs + a0)), (1, .int x1), (4, .int y1), (5, .ref (bs + b4)), (6, .long x6), (8, .int x8)] []) h (fun k_ hk_ => wX2_handle_B23 C hin hk_ ?_ )
  intro z14 h
  try dsimp only [Sum.elim_inl] at h
  exact v_vret C dX2_handle_104 (Option.some.inj h)
set_option maxRecDepth 100000 in
set_option maxHeartbeats 4000000 in
theorem wX2_goOneLink_B2 {X : UX} {D : UD} {bs tw : Nat} {u0 : UH} {r : Int32} {v : UH} (C : uCx X D bs tw cX2_goOneLink 3 RX2 (some .boolean)) (hin : X.2.2.2.2.2.2.2.1.name = "goOneLink") {a0 : Nat}  {G : UH → Prop} {k : Int32 → UH → Option UH} (hk : ∀ (x1 : Int32) (u' : UH) e, k x1 u' = some e → G e → VV X D bs u0 rmX2_goOneLink 3 0 0 (MQ X.2.2.2.2.2.2.1 (uQi D bs u0 v r) X.2.2.2.2.2.1 X.2.2.2.1 0 0 (uA bs u0)) u' 2 [(0, .ref (bs + a0)), (1, .int x1)] []) (hex : ∀  (u' : UH), G u' → VV X D bs u0 rmX2_goOneLink 3 0 0 (MQ X.2.2.2.2.2.2.1 (uQi D bs u0 v r) X.2.2.2.2.2.1 X.2.2.2.1 0 0 (uA bs u0)) u' 36 [(0, .ref (bs + a0))] [])  : ∀ (x1 : Int32) (u : UH) e, fX2_goOneLink_B2 a0  k x1 u = some e → G e → VV X D bs u0 rmX2_goOneLink 3 0 0 (MQ X.2.2.2.2.2.2.1 (uQi D bs u0 v r) X.2.2.2.2.2.1 X.2.2.2.1 0 0 (uA bs u0)) u 2 [(0, .ref (bs + a0)), (1, .int x1)] [] := by
  intro x1 u e h g
  unfold fX2_goOneLink_B2 at h
  refine v_iload_n C 1 dX2_goOneLink_2 rfl rfl ?_
  refine v_bipush C (24 : Int32) dX2_goOneLink_3 (by decide) ?_
  refine v_icmpge C 36 dX2_goOneLink_5 (by decide) h (fun _ h => ?_) (fun _ h => ?_)
  · refine v_sub [(0, .ref (bs + a0))] [0] rfl ?_
    exact hex u ((Option.some.inj h).symm ▸ g)
  · refine v_aload_n C 0 dX2_goOneLink_8 rfl rfl ?_
    refine v_getR C fdX2_15 dX2_goOneLink_9 h (fun b1 h => ?_)
    refine v_iload_n C 1 dX2_goOneLink_12 rfl rfl ?_
    refine v_ldJ C dX2_goOneLink_13 h (fun y2 h => ?_)
    refine v_lconst C (0 : Int64) dX2_goOneLink_14 (by decide) ?_
    refine v_lcmpeq C 30 dX2_goOneLink_15 dX2_goOneLink_16 (by decide) h (fun _ h => ?_) (fun _ h => ?_)
    · refine v_iinc C 1 (x1 + (1 : Int32)) [(1, .int (x1 + (1 : Int32))), (0, .ref (bs + a0))] dX2_goOneLink_30 rfl rfl (by decide) rfl ?_
      refine v_goto C 2 dX2_goOneLink_33 (by decide) ?_
      refine v_sub [(0, .ref (bs + a0)), (1, .int (x1 + (1 : Int32)))] [1, 0] rfl ?_
      exact hk (x1 + (1 : Int32)) u _ h g
    · refine v_aload_n C 0 dX2_goOneLink_19 rfl rfl ?_
      refine v_iload_n C 1 dX2_goOneLink_20 rfl rfl ?_
      refine v_aload_n C 0 dX2_goOneLink_21 rfl rfl ?_
      refine v_getR C fdX2_15 dX2_goOneLink_22 h (fun b3 h => ?_)
      refine v_iload_n C 1 dX2_goOneLink_25 rfl rfl ?_
      refine v_ldJ C dX2_goOneLink_26 h (fun y4 h => ?_)
      obtain ⟨u5, h1, h⟩ := ob_some h
      obtain ⟨hkd, h1⟩ := kd_some h1
      refine v_gov (rn_V C gcX2_108 (RX2, TX2, 4) rfl rfl (by decide) hkd (mX2_handle h1) ⟨rfl, rfl⟩ rfl ⟨Nat.le_of_ble_eq_true rfl, Nat.le_of_ble_eq_true rfl⟩ (rest := []) rfl (Nat.le_of_ble_eq_true rfl) ⟨Nat.le_of_ble_eq_true rfl, Nat.le_of_ble_eq_true rfl⟩ dX2_goOneLink_27) ?_
      refine v_iinc C 1 (x1 + (1 : Int32)) [(1, .int (x1 + (1 : Int32))), (0, .ref (bs + a0))] dX2_goOneLink_30 rfl rfl (by decide) rfl ?_
      refine v_goto C 2 dX2_goOneLink_33 (by decide) ?_
      refine v_sub [(0, .ref (bs + a0)), (1, .int (x1 + (1 : Int32)))] [1, 0] rfl ?_
      exact hk (x1 + (1 : Int32)) u5 _ h g
set_option maxRecDepth 100000 in
set_option maxHeartbeats 4000000 in
theorem wX2_goOneLink_B40 {X : UX} {D : UD} {bs tw : Nat} {u0 : UH} {r : Int32} {v : UH} (C : uCx X D bs tw cX2_goOneLink 3 RX2 (some .boolean)) (hin : X.2.2.2.2.2.2.2.1.name = "goOneLink") {a0 : Nat}  {G : (Int32 × UH) → Prop} {k : Int32 → Int32 → UH → Option (Int32 × UH)} (hk : ∀ (x1 : Int32) (x2 : Int32) (u' : UH) e, k x1 x2 u' = some e → G e → VV X D bs u0 rmX2_goOneLink 3 0 0 (MQ X.2.2.2.2.2.2.1 (uQi D bs u0 v r) X.2.2.2.2.2.1 X.2.2.2.1 0 0 (uA bs u0)) u' 40 [(0, .ref (bs + a0)), (1, .int x1), (2, .int x2)] []) (hex : ∀ (x1 : Int32) (u' : UH), G (x1, u') → VV X D bs u0 rmX2_goOneLink 3 0 0 (MQ X.2.2.2.2.2.2.1 (uQi D bs u0 v r) X.2.2.2.2.2.1 X.2.2.2.1 0 0 (uA bs u0)) u' 107 [(1, .int x1)] [])  : ∀ (x1 : Int32) (x2 : Int32) (u : UH) e, fX2_goOneLink_B40 a0  k x1 x2 u = some e → G e → VV X D bs u0 rmX2_goOneLink 3 0 0 (MQ X.2.2.2.2.2.2.1 (uQi D bs u0 v r) X.2.2.2.2.2.1 X.2.2.2.1 0 0 (uA bs u0)) u 40 [(0, .ref (bs + a0)), (1, .int x1), (2, .int x2)] [] := by
  intro x1 x2 u e h g
  unfold fX2_goOneLink_B40 at h
  refine v_iload_n C 2 dX2_goOneLink_40 rfl rfl ?_
  refine v_bipush C (24 : Int32) dX2_goOneLink_41 (by decide) ?_
  refine v_icmpge C 107 dX2_goOneLink_43 (by decide) h (fun _ h => ?_) (fun _ h => ?_)
  · refine v_sub [(1, .int x1)] [1] rfl ?_
    exact hex x1 u ((Option.some.inj h).symm ▸ g)
  · refine v_aload_n C 0 dX2_goOneLink_46 rfl rfl ?_
    refine v_getR C fdX2_15 dX2_goOneLink_47 h (fun b8 h => ?_)
    refine v_iload_n C 2 dX2_goOneLink_50 rfl rfl ?_
    refine v_aload_n C 0 dX2_goOneLink_51 rfl rfl ?_
    refine v_getR C fdX2_18 dX2_goOneLink_52 h (fun b9 h => ?_)
    refine v_iload_n C 2 dX2_goOneLink_55 rfl rfl ?_
    refine v_ldJ C dX2_goOneLink_56 h (fun y10 h => ?_)
    refine v_stJ C dX2_goOneLink_57 h (fun u11 h => ?_)
    refine v_aload_n C 0 dX2_goOneLink_58 rfl rfl ?_
    refine v_getR C fdX2_9 dX2_goOneLink_59 h (fun b12 h => ?_)
    refine v_iload_n C 2 dX2_goOneLink_62 rfl rfl ?_
    refine v_dup2 C dX2_goOneLink_63 rfl rfl ?_
    refine v_ldJ C dX2_goOneLink_64 h (fun y13 h => ?_)
    refine v_aload_n C 0 dX2_goOneLink_65 rfl rfl ?_
    refine v_getR C fdX2_18 dX2_goOneLink_66 h (fun b14 h => ?_)
    refine v_iload_n C 2 dX2_goOneLink_69 rfl rfl ?_
    refine v_ldJ C dX2_goOneLink_70 h (fun y15 h => ?_)
    refine v_lor C dX2_goOneLink_71 ?_
    refine v_stJ C dX2_goOneLink_72 h (fun u16 h => ?_)
    refine v_iload_n C 1 dX2_goOneLink_73 rfl rfl ?_
    refine v_ifne C 88 dX2_goOneLink_74 (by decide) h (fun _ h => ?_) (fun _ h => ?_)
    · refine v_iconst C (1 : Int32) dX2_goOneLink_88 (by decide) ?_
      refine v_goto C 93 dX2_goOneLink_89 (by decide) ?_
      refine v_istore_n C [(1, .int (1 : Int32)), (0, .ref (bs + a0)), (2, .int x2)] dX2_goOneLink_93 rfl (by decide) rfl ?_
      refine v_aload_n C 1 dX2_goOneLink_94 rfl rfl ?_
      refine v_getR C fdX2_18 dX2_goOneLink_95 h (fun b17 h => ?_)
      refine v_iload_n C 2 dX2_goOneLink_98 rfl rfl ?_
      refine v_lconst C (0 : Int64) dX2_goOneLink_99 (by decide) ?_
      refine v_stJ C dX2_goOneLink_100 h (fun u18 h => ?_)
      refine v_iinc C 2 (x2 + (1 : Int32)) [(2, .int (x2 + (1 : Int32))), (1, .int (1 : Int32)), (0, .ref (bs + a0))] dX2_goOneLink_101 rfl rfl (by decide) rfl ?_
      refine v_goto C 40 dX2_goOneLink_104 (by decide) ?_
      refine v_sub [(0, .ref (bs + a0)), (1, .int (1 : Int32)), (2, .int (x2 + (1 : Int32)))] [2, 1, 0] rfl ?_
      exact hk (1 : Int32) (x2 + (1 : Int32)) u18 _ h g
    · refine v_aload_n C 0 dX2_goOneLink_77 rfl rfl ?_
      refine v_getR C fdX2_18 dX2_goOneLink_78 h (fun b19 h => ?_)
      refine v_iload_n C 2 dX2_goOneLink_81 rfl rfl ?_
      refine v_ldJ C dX2_goOneLink_82 h (fun y20 h => ?_)
      refine v_lconst C (0 : Int64) dX2_goOneLink_83 (by decide) ?_
      refine v_lcmpeq C 92 dX2_goOneLink_84 dX2_goOneLink_85 (by decide) h (fun _ h => ?_) (fun _ h => ?_)
      · refine v_iconst C (0 : Int32) dX2_goOneLink_92 (by decide) ?_
        refine v_istore_n C [(1, .int (0 : Int32)), (0, .ref (bs + a0)), (2, .int x2)] dX2_goOneLink_93 rfl (by decide) rfl ?_
        refine v_aload_n C 1 dX2_goOneLink_94 rfl rfl ?_
        refine v_getR C fdX2_18 dX2_goOneLink_95 h (fun b21 h => ?_)
        refine v_iload_n C 2 dX2_goOneLink_98 rfl rfl ?_
        refine v_lconst C (0 : Int64) dX2_goOneLink_99 (by decide) ?_
        refine v_stJ C dX2_goOneLink_100 h (fun u22 h => ?_)
        refine v_iinc C 2 (x2 + (1 : Int32)) [(2, .int (x2 + (1 : Int32))), (1, .int (0 : Int32)), (0, .ref (bs + a0))] dX2_goOneLink_101 rfl rfl (by decide) rfl ?_
        refine v_goto C 40 dX2_goOneLink_104 (by decide) ?_
        refine v_sub [(0, .ref (bs + a0)), (1, .int (0 : Int32)), (2, .int (x2 + (1 : Int32)))] [2, 1, 0] rfl ?_
        exact hk (0 : Int32) (x2 + (1 : Int32)) u22 _ h g
      · refine v_iconst C (1 : Int32) dX2_goOneLink_88 (by decide) ?_
        refine v_goto C 93 dX2_goOneLink_89 (by decide) ?_
        refine v_istore_n C [(1, .int (1 : Int32)), (0, .ref (bs + a0)), (2, .int x2)] dX2_goOneLink_93 rfl (by decide) rfl ?_
        refine v_aload_n C 1 dX2_goOneLink_94 rfl rfl ?_
        refine v_getR C fdX2_18 dX2_goOneLink_95 h (fun b23 h => ?_)
        refine v_iload_n C 2 dX2_goOneLink_98 rfl rfl ?_
        refine v_lconst C (0 : Int64) dX2_goOneLink_99 (by decide) ?_
        refine v_stJ C dX2_goOneLink_100 h (fun u24 h => ?_)
        refine v_iinc C 2 (x2 + (1 : Int32)) [(2, .int (x2 + (1 : Int32))), (1, .int (1 : Int32)), (0, .ref (bs + a0))] dX2_goOneLink_101 rfl rfl (by decide) rfl ?_
        refine v_goto C 40 dX2_goOneLink_104 (by decide) ?_
        refine v_sub [(0, .ref (bs + a0)), (1, .int (1 : Int32)), (2, .int (x2 + (1 : Int32)))] [2, 1, 0] rfl ?_
        exact hk (1 : Int32) (x2 + (1 : Int32)) u24 _ h g
set_option maxRecDepth 100000 in
set_option maxHeartbeats 4000000 in
theorem mX2_goOneLink {l : Launch} {D : UD} {bs : Nat} {a0 : Nat} {u0 : UH} {r : Int32} {v : UH} (h : fX2_goOneLink a0 u0 = some (r, v)) : Met l yX2_goOneLink (wz yX2_goOneLink cX2_goOneLink 3 (some .boolean)) rmX2_goOneLink (va_Pc [.ref (bs + a0)] (uIn D bs u0)) (uQi D bs u0 v r) 0 0 (uA bs u0) := by
  refine uMet (by decide) (Nat.le_of_ble_eq_true rfl) ?_
  intro X tw hX C hin
  have C : uCx X D bs tw cX2_goOneLink 3 RX2 (some .boolean) := C
  have hin : X.2.2.2.2.2.2.2.1.name = "goOneLink" := hin
  refine v_L [(0, .ref (bs + a0))] rfl ?_
  unfold fX2_goOneLink at h
  refine v_iconst C (0 : Int32) dX2_goOneLink_0 (by decide) ?_
  refine v_istore_n C [(1, .int (0 : Int32)), (0, .ref (bs + a0))] dX2_goOneLink_1 rfl (by decide) rfl ?_
  refine v_sub [(0, .ref (bs + a0)), (1, .int (0 : Int32))] [1, 0] rfl ?_
  refine it2_O (V := fun x1 u' => VV X D bs u0 rmX2_goOneLink 3 0 0 (MQ X.2.2.2.2.2.2.1 (uQi D bs u0 v r) X.2.2.2.2.2.1 X.2.2.2.1 0 0 (uA bs u0)) u' 2 [(0, .ref (bs + a0)), (1, .int x1)] []) h (fun k_ hk_ => wX2_goOneLink_B2 C hin hk_ ?_ )
  intro z7 h
  try dsimp only [Sum.elim_inl] at h
  refine v_iconst C (0 : Int32) dX2_goOneLink_36 (by decide) ?_
  refine v_istore_n C [(1, .int (0 : Int32)), (0, .ref (bs + a0))] dX2_goOneLink_37 rfl (by decide) rfl ?_
  refine v_iconst C (0 : Int32) dX2_goOneLink_38 (by decide) ?_
  refine v_istore_n C [(2, .int (0 : Int32)), (1, .int (0 : Int32)), (0, .ref (bs + a0))] dX2_goOneLink_39 rfl (by decide) rfl ?_
  refine v_sub [(0, .ref (bs + a0)), (1, .int (0 : Int32)), (2, .int (0 : Int32))] [2, 1, 0] rfl ?_
  refine it3_O (V := fun x1 x2 u' => VV X D bs u0 rmX2_goOneLink 3 0 0 (MQ X.2.2.2.2.2.2.1 (uQi D bs u0 v r) X.2.2.2.2.2.1 X.2.2.2.1 0 0 (uA bs u0)) u' 40 [(0, .ref (bs + a0)), (1, .int x1), (2, .int x2)] []) h (fun k_ hk_ => wX2_goOneLink_B40 C hin hk_ ?_ )
  intro z9 z10 h
  try dsimp only [Sum.elim_inl] at h
  refine v_iload_n C 0 dX2_goOneLink_107 rfl rfl ?_
  obtain ⟨hz, h⟩ := bz_some h
  exact v_zret C dX2_goOneLink_108 (Prod.mk.inj (Option.some.inj h)).2 (Prod.mk.inj (Option.some.inj h)).1 (nz hz)
set_option maxRecDepth 100000 in
set_option maxHeartbeats 4000000 in
theorem wX2_spread_B4 {X : UX} {D : UD} {bs tw : Nat} {u0 : UH} {v : UH} (C : uCx X D bs tw cX2_spread 3 RX2 none) (hin : X.2.2.2.2.2.2.2.1.name = "spread") {a0 : Nat}  {G : UH → Prop} {k : Int32 → Int32 → UH → Option UH} (hk : ∀ (x1 : Int32) (x2 : Int32) (u' : UH) e, k x1 x2 u' = some e → G e → VV X D bs u0 rmX2_spread 3 0 0 (MQ X.2.2.2.2.2.2.1 (uQv D bs u0 v) X.2.2.2.2.2.1 X.2.2.2.1 0 0 (uA bs u0)) u' 4 [(0, .ref (bs + a0)), (1, .int x1), (2, .int x2)] []) (hex : ∀  (u' : UH), G u' → VV X D bs u0 rmX2_spread 3 0 0 (MQ X.2.2.2.2.2.2.1 (uQv D bs u0 v) X.2.2.2.2.2.1 X.2.2.2.1 0 0 (uA bs u0)) u' 26 [] [])  : ∀ (x1 : Int32) (x2 : Int32) (u : UH) e, fX2_spread_B4 a0  k x1 x2 u = some e → G e → VV X D bs u0 rmX2_spread 3 0 0 (MQ X.2.2.2.2.2.2.1 (uQv D bs u0 v) X.2.2.2.2.2.1 X.2.2.2.1 0 0 (uA bs u0)) u 4 [(0, .ref (bs + a0)), (1, .int x1), (2, .int x2)] [] := by
  intro x1 x2 u e h g
  unfold fX2_spread_B4 at h
  refine v_iload_n C 1 dX2_spread_4 rfl rfl ?_
  refine v_ifeq C 26 dX2_spread_5 (by decide) h (fun _ h => ?_) (fun _ h => ?_)
  · refine v_sub [] [] rfl ?_
    exact hex u ((Option.some.inj h).symm ▸ g)
  · refine v_iload_n C 2 dX2_spread_8 rfl rfl ?_
    refine v_sipush C (768 : Int32) dX2_spread_9 (by decide) ?_
    refine v_icmpgt C 26 dX2_spread_12 (by decide) h (fun _ h => ?_) (fun _ h => ?_)
    · refine v_sub [] [] rfl ?_
      exact hex u ((Option.some.inj h).symm ▸ g)
    · refine v_aload_n C 0 dX2_spread_15 rfl rfl ?_
      obtain ⟨y1, u2, h1, h⟩ := ob2_some h
      obtain ⟨hkd, h1⟩ := kd_some h1
      refine v_goi (rn_V C gcX2_39 (RX2, TX2, 4) rfl rfl (by decide) hkd (mX2_goOneLink h1) ⟨rfl, rfl⟩ rfl ⟨Nat.le_of_ble_eq_true rfl, Nat.le_of_ble_eq_true rfl⟩ (rest := []) rfl (Nat.le_of_ble_eq_true rfl) ⟨Nat.le_of_ble_eq_true rfl, Nat.le_of_ble_eq_true rfl⟩ dX2_spread_16) ?_
      refine v_istore_n C [(1, .int y1), (0, .ref (bs + a0)), (2, .int x2)] dX2_spread_19 rfl (by decide) rfl ?_
      refine v_iinc C 2 (x2 + (1 : Int32)) [(2, .int (x2 + (1 : Int32))), (1, .int y1), (0, .ref (bs + a0))] dX2_spread_20 rfl rfl (by decide) rfl ?_
      refine v_goto C 4 dX2_spread_23 (by decide) ?_
      refine v_sub [(0, .ref (bs + a0)), (1, .int y1), (2, .int (x2 + (1 : Int32)))] [2, 1, 0] rfl ?_
      exact hk y1 (x2 + (1 : Int32)) u2 _ h g
set_option maxRecDepth 100000 in
set_option maxHeartbeats 4000000 in
theorem mX2_spread {l : Launch} {D : UD} {bs : Nat} {a0 : Nat} {u0 : UH} {v : UH} (h : fX2_spread a0 u0 = some v) : Met l yX2_spread (wz yX2_spread cX2_spread 3 none) rmX2_spread (va_Pc [.ref (bs + a0)] (uIn D bs u0)) (uQv D bs u0 v) 0 0 (uA bs u0) := by
  refine uMet (by decide) (Nat.le_of_ble_eq_true rfl) ?_
  intro X tw hX C hin
  have C : uCx X D bs tw cX2_spread 3 RX2 none := C
  have hin : X.2.2.2.2.2.2.2.1.name = "spread" := hin
  refine v_L [(0, .ref (bs + a0))] rfl ?_
  unfold fX2_spread at h
  refine v_iconst C (1 : Int32) dX2_spread_0 (by decide) ?_
  refine v_istore_n C [(1, .int (1 : Int32)), (0, .ref (bs + a0))] dX2_spread_1 rfl (by decide) rfl ?_
  refine v_iconst C (0 : Int32) dX2_spread_2 (by decide) ?_
  refine v_istore_n C [(2, .int (0 : Int32)), (1, .int (1 : Int32)), (0, .ref (bs + a0))] dX2_spread_3 rfl (by decide) rfl ?_
  refine v_sub [(0, .ref (bs + a0)), (1, .int (1 : Int32)), (2, .int (0 : Int32))] [2, 1, 0] rfl ?_
  refine it3_O (V := fun x1 x2 u' => VV X D bs u0 rmX2_spread 3 0 0 (MQ X.2.2.2.2.2.2.1 (uQv D bs u0 v) X.2.2.2.2.2.1 X.2.2.2.1 0 0 (uA bs u0)) u' 4 [(0, .ref (bs + a0)), (1, .int x1), (2, .int x2)] []) h (fun k_ hk_ => wX2_spread_B4 C hin hk_ ?_ )
  intro z4 h
  try dsimp only [Sum.elim_inl] at h
  exact v_vret C dX2_spread_26 (Option.some.inj h)
set_option maxRecDepth 100000 in
set_option maxHeartbeats 4000000 in
theorem mX2_spreadFrom {l : Launch} {D : UD} {bs : Nat} {a0 : Nat} {x1 : Int32} {x2 : Int64} {u0 : UH} {v : UH} (h : fX2_spreadFrom a0 x1 x2 u0 = some v) : Met l yX2_spreadFrom (wz yX2_spreadFrom cX2_spreadFrom 4 none) rmX2_spreadFrom (va_Pc [.ref (bs + a0), .int x1, .long x2] (uIn D bs u0)) (uQv D bs u0 v) 0 0 (uA bs u0) := by
  refine uMet (by decide) (Nat.le_of_ble_eq_true rfl) ?_
  intro X tw hX C hin
  have C : uCx X D bs tw cX2_spreadFrom 4 RX2 none := C
  have hin : X.2.2.2.2.2.2.2.1.name = "spreadFrom" := hin
  refine v_L [(0, .ref (bs + a0)), (1, .int x1), (2, .long x2)] rfl ?_
  unfold fX2_spreadFrom at h
  refine v_aload_n C 0 dX2_spreadFrom_0 rfl rfl ?_
  obtain ⟨u1, h1, h⟩ := ob_some h
  obtain ⟨hkd, h1⟩ := kd_some h1
  refine v_gov (rn_V C gcX2_25 (RX2, TX2, 4) rfl rfl (by decide) hkd (mX2_forget h1) ⟨rfl, rfl⟩ rfl ⟨Nat.le_of_ble_eq_true rfl, Nat.le_of_ble_eq_true rfl⟩ (rest := []) rfl (Nat.le_of_ble_eq_true rfl) ⟨Nat.le_of_ble_eq_true rfl, Nat.le_of_ble_eq_true rfl⟩ dX2_spreadFrom_1) ?_
  refine v_aload_n C 0 dX2_spreadFrom_4 rfl rfl ?_
  refine v_iload_n C 1 dX2_spreadFrom_5 rfl rfl ?_
  refine v_lload_n C 2 dX2_spreadFrom_6 rfl rfl ?_
  obtain ⟨u2, h1, h⟩ := ob_some h
  obtain ⟨hkd, h1⟩ := kd_some h1
  refine v_gov (rn_V C gcX2_28 (RX2, TX2, 4) rfl rfl (by decide) hkd (mX2_enter h1) ⟨rfl, rfl⟩ rfl ⟨Nat.le_of_ble_eq_true rfl, Nat.le_of_ble_eq_true rfl⟩ (rest := []) rfl (Nat.le_of_ble_eq_true rfl) ⟨Nat.le_of_ble_eq_true rfl, Nat.le_of_ble_eq_true rfl⟩ dX2_spreadFrom_7) ?_
  refine v_aload_n C 0 dX2_spreadFrom_10 rfl rfl ?_
  obtain ⟨u3, h1, h⟩ := ob_some h
  obtain ⟨hkd, h1⟩ := kd_some h1
  refine v_gov (rn_V C gcX2_32 (RX2, TX2, 4) rfl rfl (by decide) hkd (mX2_spread h1) ⟨rfl, rfl⟩ rfl ⟨Nat.le_of_ble_eq_true rfl, Nat.le_of_ble_eq_true rfl⟩ (rest := []) rfl (Nat.le_of_ble_eq_true rfl) ⟨Nat.le_of_ble_eq_true rfl, Nat.le_of_ble_eq_true rfl⟩ dX2_spreadFrom_11) ?_
  exact v_vret C dX2_spreadFrom_14 (Option.some.inj h)
set_option maxRecDepth 100000 in
set_option maxHeartbeats 4000000 in
theorem mX11_arriving {l : Launch} {D : UD} {bs : Nat} {a0 : Nat} {x1 : Int32} {x2 : Int32} {u0 : UH} {r : Int64} {v : UH} (h : fX11_arriving a0 x1 x2 u0 = some (r, v)) : Met l yX11_arriving (wz yX11_arriving cX11_arriving 3 (some .long)) rmX11_arriving (va_Pc [.ref (bs + a0), .int x1, .int x2] (uIn D bs u0)) (uQl D bs u0 v r) 0 0 (uA bs u0) := by
  refine uMet (by decide) (Nat.le_of_ble_eq_true rfl) ?_
  intro X tw hX C hin
  have C : uCx X D bs tw cX11_arriving 3 RX11 (some .long) := C
  have hin : X.2.2.2.2.2.2.2.1.name = "arriving" := hin
  refine v_L [(0, .ref (bs + a0)), (1, .int x1), (2, .int x2)] rfl ?_
  unfold fX11_arriving at h
  refine v_iload_n C 1 dX11_arriving_0 rfl rfl ?_
  refine v_iload_n C 2 dX11_arriving_1 rfl rfl ?_
  obtain ⟨y1, h1, h⟩ := ob_some h
  refine v_goi (rn_S C gcX11_101 (mX11_isPlace h1) ⟨rfl, rfl⟩ rfl ⟨Nat.le_of_ble_eq_true rfl, Nat.le_of_ble_eq_true rfl⟩ (rest := []) rfl (Nat.le_of_ble_eq_true rfl) ⟨Nat.le_of_ble_eq_true rfl, Nat.le_of_ble_eq_true rfl⟩ dX11_arriving_2) ?_
  refine v_ifne C 12 dX11_arriving_5 (by decide) h (fun _ h => ?_) (fun _ h => ?_)
  · refine v_aload_n C 0 dX11_arriving_12 rfl rfl ?_
    refine v_getR C fdX11_30 dX11_arriving_13 h (fun b2 h => ?_)
    refine v_aload_n C 0 dX11_arriving_16 rfl rfl ?_
    refine v_getI C fdX11_98 dX11_arriving_17 h (fun y3 h => ?_)
    refine v_aload_n C 0 dX11_arriving_20 rfl rfl ?_
    refine v_getJ C fdX11_80 dX11_arriving_21 h (fun y4 h => ?_)
    obtain ⟨u5, h1, h⟩ := ob_some h
    obtain ⟨hkd, h1⟩ := kd_some h1
    refine v_gov (rn_V C gcX11_218 (RX2, TX2, 4) rfl rfl (by decide) hkd (mX2_spreadFrom h1) ⟨rfl, rfl⟩ rfl ⟨Nat.le_of_ble_eq_true rfl, Nat.le_of_ble_eq_true rfl⟩ (rest := []) rfl (Nat.le_of_ble_eq_true rfl) ⟨Nat.le_of_ble_eq_true rfl, Nat.le_of_ble_eq_true rfl⟩ dX11_arriving_24) ?_
    refine v_aload_n C 0 dX11_arriving_27 rfl rfl ?_
    refine v_getR C fdX11_30 dX11_arriving_28 h (fun b6 h => ?_)
    refine v_getR C fdX11_222 dX11_arriving_31 h (fun b7 h => ?_)
    refine v_iload_n C 1 dX11_arriving_34 rfl rfl ?_
    refine v_iload_n C 2 dX11_arriving_35 rfl rfl ?_
    obtain ⟨y8, h1, h⟩ := ob_some h
    refine v_goi (rn_S C gcX11_105 (mX11_placeOf h1) ⟨rfl, rfl⟩ rfl ⟨Nat.le_of_ble_eq_true rfl, Nat.le_of_ble_eq_true rfl⟩ (rest := [.ref (bs + b7)]) rfl (Nat.le_of_ble_eq_true rfl) ⟨Nat.le_of_ble_eq_true rfl, Nat.le_of_ble_eq_true rfl⟩ dX11_arriving_36) ?_
    refine v_ldJ C dX11_arriving_39 h (fun y9 h => ?_)
    exact v_lret C dX11_arriving_40 (Prod.mk.inj (Option.some.inj h)).2 (Prod.mk.inj (Option.some.inj h)).1
  · refine v_ldc2 C (-9223372036854775808 : Int64) tw554 dX11_arriving_8 ?_
    exact v_lret C dX11_arriving_11 (Prod.mk.inj (Option.some.inj h)).2 (Prod.mk.inj (Option.some.inj h)).1
set_option maxRecDepth 100000 in
set_option maxHeartbeats 4000000 in
theorem wX2_allHandled_B16 {X : UX} {D : UD} {bs tw : Nat} {u0 : UH} {r : Int64} (C : uCx X D bs tw cX2_allHandled 7 RX2 (some .long)) (hin : X.2.2.2.2.2.2.2.1.name = "allHandled") {a0 : Nat} {x1 : Int32} {x2 : Int32} {a3 : Nat}  {G : Int64 → Prop} {k : Int64 → Int32 → Option Int64} (hk : ∀ (x4 : Int64) (x6 : Int32)  e, k x4 x6  = some e → G e → VV X D bs u0 rmX2_allHandled 7 0 0 (MQ X.2.2.2.2.2.2.1 (uQl D bs u0 u0 r) X.2.2.2.2.2.1 X.2.2.2.1 0 0 (uA bs u0)) u0 16 [(0, .ref (bs + a0)), (1, .int x1), (2, .int x2), (3, .ref (bs + a3)), (4, .long x4), (6, .int x6)] []) (hex : ∀ (x4 : Int64) , G x4 → VV X D bs u0 rmX2_allHandled 7 0 0 (MQ X.2.2.2.2.2.2.1 (uQl D bs u0 u0 r) X.2.2.2.2.2.1 X.2.2.2.1 0 0 (uA bs u0)) u0 51 [(4, .long x4)] [])  : ∀ (x4 : Int64) (x6 : Int32)  e, fX2_allHandled_B16 a0 x1 x2 a3 u0 k x4 x6  = some e → G e → VV X D bs u0 rmX2_allHandled 7 0 0 (MQ X.2.2.2.2.2.2.1 (uQl D bs u0 u0 r) X.2.2.2.2.2.1 X.2.2.2.1 0 0 (uA bs u0)) u0 16 [(0, .ref (bs + a0)), (1, .int x1), (2, .int x2), (3, .ref (bs + a3)), (4, .long x4), (6, .int x6)] [] := by
  intro x4 x6  e h g
  unfold fX2_allHandled_B16 at h
  refine v_iload C 5 dX2_allHandled_16 rfl ?_
  refine v_iconst C (4 : Int32) dX2_allHandled_18 (by decide) ?_
  refine v_icmpge C 51 dX2_allHandled_19 (by decide) h (fun _ h => ?_) (fun _ h => ?_)
  · refine v_sub [(4, .long x4)] [4] rfl ?_
    exact hex x4 ((Option.some.inj h).symm ▸ g)
  · refine v_lload C 4 dX2_allHandled_22 rfl ?_
    refine v_aload_n C 3 dX2_allHandled_24 rfl rfl ?_
    refine v_iload_n C 2 dX2_allHandled_25 rfl rfl ?_
    refine v_iload C 5 dX2_allHandled_26 rfl ?_
    refine v_aload_n C 0 dX2_allHandled_28 rfl rfl ?_
    refine v_getR C fdX2_9 dX2_allHandled_29 h (fun b4 h => ?_)
    refine v_iload_n C 1 dX2_allHandled_32 rfl rfl ?_
    refine v_iload C 5 dX2_allHandled_33 rfl ?_
    obtain ⟨y5, h1, h⟩ := ob_some h
    refine v_goi (rn_N C gcX2_43 (mX11_placeOf h1) ⟨rfl, rfl⟩ rfl ⟨Nat.le_of_ble_eq_true rfl, Nat.le_of_ble_eq_true rfl⟩ (rest := [.ref (bs + b4), .int x6, .int x2, .ref (bs + a3), .long x4]) rfl (Nat.le_of_ble_eq_true rfl) ⟨Nat.le_of_ble_eq_true rfl, Nat.le_of_ble_eq_true rfl⟩ dX2_allHandled_35) ?_
    refine v_ldJ C dX2_allHandled_38 h (fun y6 h => ?_)
    obtain ⟨y7, h1, h⟩ := ob_some h
    obtain ⟨hkd, h1⟩ := kd_some h1
    refine v_gol (rn_V C gcX2_81 (RX7, TX7, 2) rfl rfl (by decide) hkd (mX7_handled h1) ⟨rfl, rfl⟩ rfl ⟨Nat.le_of_ble_eq_true rfl, Nat.le_of_ble_eq_true rfl⟩ (rest := [.long x4]) rfl (Nat.le_of_ble_eq_true rfl) ⟨Nat.le_of_ble_eq_true rfl, Nat.le_of_ble_eq_true rfl⟩ dX2_allHandled_39) ?_
    refine v_lor C dX2_allHandled_42 ?_
    refine v_ltl h (fun y8 h => ?_)
    refine v_lstore C [(4, .long y8), (0, .ref (bs + a0)), (1, .int x1), (2, .int x2), (3, .ref (bs + a3)), (6, .int x6)] dX2_allHandled_43 (by decide) rfl ?_
    refine v_iinc C 5 (x6 + (1 : Int32)) [(6, .int (x6 + (1 : Int32))), (4, .long y8), (0, .ref (bs + a0)), (1, .int x1), (2, .int x2), (3, .ref (bs + a3))] dX2_allHandled_45 rfl rfl (by decide) rfl ?_
    refine v_goto C 16 dX2_allHandled_48 (by decide) ?_
    refine v_sub [(0, .ref (bs + a0)), (1, .int x1), (2, .int x2), (3, .ref (bs + a3)), (4, .long y8), (6, .int (x6 + (1 : Int32)))] [2, 3, 4, 5, 1, 0] rfl ?_
    exact hk y8 (x6 + (1 : Int32)) _ h g
set_option maxRecDepth 100000 in
set_option maxHeartbeats 4000000 in
theorem mX2_allHandled {l : Launch} {D : UD} {bs : Nat} {a0 : Nat} {x1 : Int32} {x2 : Int32} {u0 : UH} {r : Int64} (h : fX2_allHandled a0 x1 x2 u0 = some r) : Met l yX2_allHandled (wz yX2_allHandled cX2_allHandled 7 (some .long)) rmX2_allHandled (va_Pc [.ref (bs + a0), .int x1, .int x2] (uIn D bs u0)) (uQl D bs u0 u0 r) 0 0 (uA bs u0) := by
  refine uMet (by decide) (Nat.le_of_ble_eq_true rfl) ?_
  intro X tw hX C hin
  have C : uCx X D bs tw cX2_allHandled 7 RX2 (some .long) := C
  have hin : X.2.2.2.2.2.2.2.1.name = "allHandled" := hin
  refine v_L [(0, .ref (bs + a0)), (1, .int x1), (2, .int x2)] rfl ?_
  unfold fX2_allHandled at h
  refine v_aload_n C 0 dX2_allHandled_0 rfl rfl ?_
  refine v_getR C fdX2_21 dX2_allHandled_1 h (fun b1 h => ?_)
  refine v_getR C fdX2_53 dX2_allHandled_4 h (fun b2 h => ?_)
  refine v_iload_n C 1 dX2_allHandled_7 rfl rfl ?_
  refine v_ldR C 26 _ rfl (by decide) dX2_allHandled_8 h (fun b3 h => ?_)
  refine v_astore_n C [(3, .ref (bs + b3)), (0, .ref (bs + a0)), (1, .int x1), (2, .int x2)] dX2_allHandled_9 rfl (by decide) rfl ?_
  refine v_lconst C (0 : Int64) dX2_allHandled_10 (by decide) ?_
  refine v_lstore C [(4, .long (0 : Int64)), (3, .ref (bs + b3)), (0, .ref (bs + a0)), (1, .int x1), (2, .int x2)] dX2_allHandled_11 (by decide) rfl ?_
  refine v_iconst C (0 : Int32) dX2_allHandled_13 (by decide) ?_
  refine v_istore C [(6, .int (0 : Int32)), (4, .long (0 : Int64)), (3, .ref (bs + b3)), (0, .ref (bs + a0)), (1, .int x1), (2, .int x2)] dX2_allHandled_14 (by decide) rfl ?_
  refine v_sub [(0, .ref (bs + a0)), (1, .int x1), (2, .int x2), (3, .ref (bs + b3)), (4, .long (0 : Int64)), (6, .int (0 : Int32))] [3, 4, 5, 2, 1, 0] rfl ?_
  refine it2_O (V := fun x4 x6 => VV X D bs u0 rmX2_allHandled 7 0 0 (MQ X.2.2.2.2.2.2.1 (uQl D bs u0 u0 r) X.2.2.2.2.2.1 X.2.2.2.1 0 0 (uA bs u0)) u0 16 [(0, .ref (bs + a0)), (1, .int x1), (2, .int x2), (3, .ref (bs + b3)), (4, .long x4), (6, .int x6)] []) h (fun k_ hk_ => wX2_allHandled_B16 C hin hk_ ?_ )
  intro z10 h
  try dsimp only [Sum.elim_inl] at h
  refine v_lload C 0 dX2_allHandled_51 rfl ?_
  exact v_lret C dX2_allHandled_53 rfl (Option.some.inj h)
set_option maxRecDepth 100000 in
set_option maxHeartbeats 4000000 in
theorem wX2_deliveredAt_B35 {X : UX} {D : UD} {bs tw : Nat} {u0 : UH} {r : Int64} (C : uCx X D bs tw cX2_deliveredAt 8 RX2 (some .long)) (hin : X.2.2.2.2.2.2.2.1.name = "deliveredAt") {a0 : Nat} {x1 : Int32} {x2 : Int32} {a3 : Nat}  {G : Int64 → Prop} {k : Int64 → Int32 → Option Int64} (hk : ∀ (x4 : Int64) (x6 : Int32)  e, k x4 x6  = some e → G e → VV X D bs u0 rmX2_deliveredAt 8 0 0 (MQ X.2.2.2.2.2.2.1 (uQl D bs u0 u0 r) X.2.2.2.2.2.1 X.2.2.2.1 0 0 (uA bs u0)) u0 35 [(0, .ref (bs + a0)), (1, .int x1), (2, .int x2), (3, .ref (bs + a3)), (4, .long x4), (6, .int x6)] []) (hex : ∀ (x4 : Int64) , G x4 → VV X D bs u0 rmX2_deliveredAt 8 0 0 (MQ X.2.2.2.2.2.2.1 (uQl D bs u0 u0 r) X.2.2.2.2.2.1 X.2.2.2.1 0 0 (uA bs u0)) u0 88 [(4, .long x4)] [])  : ∀ (x4 : Int64) (x6 : Int32)  e, fX2_deliveredAt_B35 a0 x1 x2 a3 u0 k x4 x6  = some e → G e → VV X D bs u0 rmX2_deliveredAt 8 0 0 (MQ X.2.2.2.2.2.2.1 (uQl D bs u0 u0 r) X.2.2.2.2.2.1 X.2.2.2.1 0 0 (uA bs u0)) u0 35 [(0, .ref (bs + a0)), (1, .int x1), (2, .int x2), (3, .ref (bs + a3)), (4, .long x4), (6, .int x6)] [] := by
  intro x4 x6  e h g
  unfold fX2_deliveredAt_B35 at h
  refine v_iload C 5 dX2_deliveredAt_35 rfl ?_
  refine v_aload_n C 3 dX2_deliveredAt_37 rfl rfl ?_
  refine v_getI C fdX2_59 dX2_deliveredAt_38 h (fun y8 h => ?_)
  refine v_icmpge C 88 dX2_deliveredAt_41 (by decide) h (fun _ h => ?_) (fun _ h => ?_)
  · refine v_sub [(4, .long x4)] [4] rfl ?_
    exact hex x4 ((Option.some.inj h).symm ▸ g)
  · refine v_aload_n C 3 dX2_deliveredAt_44 rfl rfl ?_
    refine v_getR C fdX2_69 dX2_deliveredAt_45 h (fun b9 h => ?_)
    refine v_iload C 5 dX2_deliveredAt_48 rfl ?_
    refine v_ldR C 25 _ rfl (by decide) dX2_deliveredAt_50 h (fun b10 h => ?_)
    refine v_astore C [(7, .ref (bs + b10)), (0, .ref (bs + a0)), (1, .int x1), (2, .int x2), (3, .ref (bs + a3)), (4, .long x4), (6, .int x6)] dX2_deliveredAt_51 (by decide) rfl ?_
    refine v_aload C 0 dX2_deliveredAt_53 rfl ?_
    refine v_getI C fdX2_73 dX2_deliveredAt_55 h (fun y11 h => ?_)
    refine v_iload_n C 3 dX2_deliveredAt_58 rfl rfl ?_
    obtain ⟨y12, h1, h⟩ := ob_some h
    refine v_goi (rn_N C gcX2_88 (mX11_hasPort h1) ⟨rfl, rfl⟩ rfl ⟨Nat.le_of_ble_eq_true rfl, Nat.le_of_ble_eq_true rfl⟩ (rest := []) rfl (Nat.le_of_ble_eq_true rfl) ⟨Nat.le_of_ble_eq_true rfl, Nat.le_of_ble_eq_true rfl⟩ dX2_deliveredAt_59) ?_
    refine v_ifeq C 82 dX2_deliveredAt_62 (by decide) h (fun _ h => ?_) (fun _ h => ?_)
    · refine v_iinc C 6 (x6 + (1 : Int32)) [(6, .int (x6 + (1 : Int32))), (7, .ref (bs + b10)), (0, .ref (bs + a0)), (1, .int x1), (2, .int x2), (3, .ref (bs + a3)), (4, .long x4)] dX2_deliveredAt_82 rfl rfl (by decide) rfl ?_
      refine v_goto C 35 dX2_deliveredAt_85 (by decide) ?_
      refine v_sub [(0, .ref (bs + a0)), (1, .int x1), (2, .int x2), (3, .ref (bs + a3)), (4, .long x4), (6, .int (x6 + (1 : Int32)))] [2, 3, 4, 5, 6, 0] rfl ?_
      exact hk x4 (x6 + (1 : Int32)) _ h g
    · refine v_lload C 5 dX2_deliveredAt_65 rfl ?_
      refine v_aload C 0 dX2_deliveredAt_67 rfl ?_
      refine v_aload_n C 1 dX2_deliveredAt_69 rfl rfl ?_
      refine v_iload_n C 2 dX2_deliveredAt_70 rfl rfl ?_
      refine v_iload C 6 dX2_deliveredAt_71 rfl ?_
      obtain ⟨y13, h1, h⟩ := ob_some h
      obtain ⟨hkd, h1⟩ := kd_some h1
      refine v_gol (rn_V C gcX2_92 (RX2, TX2, 4) rfl rfl (by decide) hkd (mX2_allHandled h1) ⟨rfl, rfl⟩ rfl ⟨Nat.le_of_ble_eq_true rfl, Nat.le_of_ble_eq_true rfl⟩ (rest := [.ref (bs + b10), .long x4]) rfl (Nat.le_of_ble_eq_true rfl) ⟨Nat.le_of_ble_eq_true rfl, Nat.le_of_ble_eq_true rfl⟩ dX2_deliveredAt_73) ?_
      obtain ⟨y14, h1, h⟩ := ob_some h
      obtain ⟨hkd, h1⟩ := kd_some h1
      refine v_gol (rn_V C gcX2_96 (RX6, TX6, 8) rfl rfl (by decide) hkd (mX6_rewrittenSet h1) ⟨rfl, rfl⟩ rfl ⟨Nat.le_of_ble_eq_true rfl, Nat.le_of_ble_eq_true rfl⟩ (rest := [.long x4]) rfl (Nat.le_of_ble_eq_true rfl) ⟨Nat.le_of_ble_eq_true rfl, Nat.le_of_ble_eq_true rfl⟩ dX2_deliveredAt_76) ?_
      refine v_lor C dX2_deliveredAt_79 ?_
      refine v_ltl h (fun y15 h => ?_)
      refine v_lstore C [(4, .long y15), (7, .ref (bs + b10)), (0, .ref (bs + a0)), (1, .int x1), (2, .int x2), (3, .ref (bs + a3)), (6, .int x6)] dX2_deliveredAt_80 (by decide) rfl ?_
      refine v_iinc C 6 (x6 + (1 : Int32)) [(6, .int (x6 + (1 : Int32))), (4, .long y15), (7, .ref (bs + b10)), (0, .ref (bs + a0)), (1, .int x1), (2, .int x2), (3, .ref (bs + a3))] dX2_deliveredAt_82 rfl rfl (by decide) rfl ?_
      refine v_goto C 35 dX2_deliveredAt_85 (by decide) ?_
      refine v_sub [(0, .ref (bs + a0)), (1, .int x1), (2, .int x2), (3, .ref (bs + a3)), (4, .long y15), (6, .int (x6 + (1 : Int32)))] [3, 4, 5, 6, 1, 0] rfl ?_
      exact hk y15 (x6 + (1 : Int32)) _ h g
set_option maxRecDepth 100000 in
set_option maxHeartbeats 4000000 in
theorem mX2_deliveredAt {l : Launch} {D : UD} {bs : Nat} {a0 : Nat} {x1 : Int32} {x2 : Int32} {u0 : UH} {r : Int64} (h : fX2_deliveredAt a0 x1 x2 u0 = some r) : Met l yX2_deliveredAt (wz yX2_deliveredAt cX2_deliveredAt 8 (some .long)) rmX2_deliveredAt (va_Pc [.ref (bs + a0), .int x1, .int x2] (uIn D bs u0)) (uQl D bs u0 u0 r) 0 0 (uA bs u0) := by
  refine uMet (by decide) (Nat.le_of_ble_eq_true rfl) ?_
  intro X tw hX C hin
  have C : uCx X D bs tw cX2_deliveredAt 8 RX2 (some .long) := C
  have hin : X.2.2.2.2.2.2.2.1.name = "deliveredAt" := hin
  refine v_L [(0, .ref (bs + a0)), (1, .int x1), (2, .int x2)] rfl ?_
  unfold fX2_deliveredAt at h
  refine v_aload_n C 0 dX2_deliveredAt_0 rfl rfl ?_
  refine v_getR C fdX2_21 dX2_deliveredAt_1 h (fun b1 h => ?_)
  refine v_getR C fdX2_84 dX2_deliveredAt_4 h (fun b2 h => ?_)
  refine v_iload_n C 1 dX2_deliveredAt_7 rfl rfl ?_
  refine v_iload_n C 2 dX2_deliveredAt_8 rfl rfl ?_
  obtain ⟨y3, h1, h⟩ := ob_some h
  refine v_goi (rn_N C gcX2_43 (mX11_placeOf h1) ⟨rfl, rfl⟩ rfl ⟨Nat.le_of_ble_eq_true rfl, Nat.le_of_ble_eq_true rfl⟩ (rest := [.ref (bs + b2)]) rfl (Nat.le_of_ble_eq_true rfl) ⟨Nat.le_of_ble_eq_true rfl, Nat.le_of_ble_eq_true rfl⟩ dX2_deliveredAt_9) ?_
  refine v_ldI C dX2_deliveredAt_12 h (fun y4 h => ?_)
  refine v_iconst C (-1 : Int32) dX2_deliveredAt_13 (by decide) ?_
  refine v_icmpeq C 19 dX2_deliveredAt_14 (by decide) h (fun _ h => ?_) (fun _ h => ?_)
  · refine v_aload_n C 0 dX2_deliveredAt_19 rfl rfl ?_
    refine v_getR C fdX2_21 dX2_deliveredAt_20 h (fun b5 h => ?_)
    refine v_getR C fdX2_53 dX2_deliveredAt_23 h (fun b6 h => ?_)
    refine v_iload_n C 1 dX2_deliveredAt_26 rfl rfl ?_
    refine v_ldR C 26 _ rfl (by decide) dX2_deliveredAt_27 h (fun b7 h => ?_)
    refine v_astore_n C [(3, .ref (bs + b7)), (0, .ref (bs + a0)), (1, .int x1), (2, .int x2)] dX2_deliveredAt_28 rfl (by decide) rfl ?_
    refine v_lconst C (0 : Int64) dX2_deliveredAt_29 (by decide) ?_
    refine v_lstore C [(4, .long (0 : Int64)), (3, .ref (bs + b7)), (0, .ref (bs + a0)), (1, .int x1), (2, .int x2)] dX2_deliveredAt_30 (by decide) rfl ?_
    refine v_iconst C (0 : Int32) dX2_deliveredAt_32 (by decide) ?_
    refine v_istore C [(6, .int (0 : Int32)), (4, .long (0 : Int64)), (3, .ref (bs + b7)), (0, .ref (bs + a0)), (1, .int x1), (2, .int x2)] dX2_deliveredAt_33 (by decide) rfl ?_
    refine v_sub [(0, .ref (bs + a0)), (1, .int x1), (2, .int x2), (3, .ref (bs + b7)), (4, .long (0 : Int64)), (6, .int (0 : Int32))] [3, 4, 5, 2, 1, 0] rfl ?_
    refine it2_O (V := fun x4 x6 => VV X D bs u0 rmX2_deliveredAt 8 0 0 (MQ X.2.2.2.2.2.2.1 (uQl D bs u0 u0 r) X.2.2.2.2.2.1 X.2.2.2.1 0 0 (uA bs u0)) u0 35 [(0, .ref (bs + a0)), (1, .int x1), (2, .int x2), (3, .ref (bs + b7)), (4, .long x4), (6, .int x6)] []) h (fun k_ hk_ => wX2_deliveredAt_B35 C hin hk_ ?_ )
    intro z17 h
    try dsimp only [Sum.elim_inl] at h
    refine v_lload C 0 dX2_deliveredAt_88 rfl ?_
    exact v_lret C dX2_deliveredAt_90 rfl (Option.some.inj h)
  · refine v_lconst C (0 : Int64) dX2_deliveredAt_17 (by decide) ?_
    exact v_lret C dX2_deliveredAt_18 rfl (Option.some.inj h)
set_option maxRecDepth 100000 in
set_option maxHeartbeats 4000000 in
theorem mX11_delivered {l : Launch} {D : UD} {bs : Nat} {a0 : Nat} {x1 : Int32} {x2 : Int32} {u0 : UH} {r : Int64} {v : UH} (h : fX11_delivered a0 x1 x2 u0 = some (r, v)) : Met l yX11_delivered (wz yX11_delivered cX11_delivered 3 (some .long)) rmX11_delivered (va_Pc [.ref (bs + a0), .int x1, .int x2] (uIn D bs u0)) (uQl D bs u0 v r) 0 0 (uA bs u0) := by
  refine uMet (by decide) (Nat.le_of_ble_eq_true rfl) ?_
  intro X tw hX C hin
  have C : uCx X D bs tw cX11_delivered 3 RX11 (some .long) := C
  have hin : X.2.2.2.2.2.2.2.1.name = "delivered" := hin
  refine v_L [(0, .ref (bs + a0)), (1, .int x1), (2, .int x2)] rfl ?_
  unfold fX11_delivered at h
  refine v_iload_n C 1 dX11_delivered_0 rfl rfl ?_
  refine v_iload_n C 2 dX11_delivered_1 rfl rfl ?_
  obtain ⟨y1, h1, h⟩ := ob_some h
  refine v_goi (rn_S C gcX11_101 (mX11_isPlace h1) ⟨rfl, rfl⟩ rfl ⟨Nat.le_of_ble_eq_true rfl, Nat.le_of_ble_eq_true rfl⟩ (rest := []) rfl (Nat.le_of_ble_eq_true rfl) ⟨Nat.le_of_ble_eq_true rfl, Nat.le_of_ble_eq_true rfl⟩ dX11_delivered_2) ?_
  refine v_ifne C 12 dX11_delivered_5 (by decide) h (fun _ h => ?_) (fun _ h => ?_)
  · refine v_aload_n C 0 dX11_delivered_12 rfl rfl ?_
    refine v_getR C fdX11_30 dX11_delivered_13 h (fun b2 h => ?_)
    refine v_aload_n C 0 dX11_delivered_16 rfl rfl ?_
    refine v_getI C fdX11_98 dX11_delivered_17 h (fun y3 h => ?_)
    refine v_aload_n C 0 dX11_delivered_20 rfl rfl ?_
    refine v_getJ C fdX11_80 dX11_delivered_21 h (fun y4 h => ?_)
    obtain ⟨u5, h1, h⟩ := ob_some h
    obtain ⟨hkd, h1⟩ := kd_some h1
    refine v_gov (rn_V C gcX11_218 (RX2, TX2, 4) rfl rfl (by decide) hkd (mX2_spreadFrom h1) ⟨rfl, rfl⟩ rfl ⟨Nat.le_of_ble_eq_true rfl, Nat.le_of_ble_eq_true rfl⟩ (rest := []) rfl (Nat.le_of_ble_eq_true rfl) ⟨Nat.le_of_ble_eq_true rfl, Nat.le_of_ble_eq_true rfl⟩ dX11_delivered_24) ?_
    refine v_aload_n C 0 dX11_delivered_27 rfl rfl ?_
    refine v_getR C fdX11_30 dX11_delivered_28 h (fun b6 h => ?_)
    refine v_iload_n C 1 dX11_delivered_31 rfl rfl ?_
    refine v_iload_n C 2 dX11_delivered_32 rfl rfl ?_
    obtain ⟨y7, h1, h⟩ := ob_some h
    obtain ⟨hkd, h1⟩ := kd_some h1
    refine v_gol (rn_V C gcX11_226 (RX2, TX2, 4) rfl rfl (by decide) hkd (mX2_deliveredAt h1) ⟨rfl, rfl⟩ rfl ⟨Nat.le_of_ble_eq_true rfl, Nat.le_of_ble_eq_true rfl⟩ (rest := []) rfl (Nat.le_of_ble_eq_true rfl) ⟨Nat.le_of_ble_eq_true rfl, Nat.le_of_ble_eq_true rfl⟩ dX11_delivered_33) ?_
    exact v_lret C dX11_delivered_36 (Prod.mk.inj (Option.some.inj h)).2 (Prod.mk.inj (Option.some.inj h)).1
  · refine v_ldc2 C (-9223372036854775808 : Int64) tw554 dX11_delivered_8 ?_
    exact v_lret C dX11_delivered_11 (Prod.mk.inj (Option.some.inj h)).2 (Prod.mk.inj (Option.some.inj h)).1
set_option maxRecDepth 100000 in
set_option maxHeartbeats 4000000 in
theorem wX2_countArrived_B4 {X : UX} {D : UD} {bs tw : Nat} {u0 : UH} {r : Int32} (C : uCx X D bs tw cX2_countArrived 4 RX2 (some .int)) (hin : X.2.2.2.2.2.2.2.1.name = "countArrived") {a0 : Nat} {x1 : Int32}  {G : Int32 → Prop} {k : Int32 → Int32 → Option Int32} (hk : ∀ (x2 : Int32) (x3 : Int32)  e, k x2 x3  = some e → G e → VV X D bs u0 rmX2_countArrived 4 0 0 (MQ X.2.2.2.2.2.2.1 (uQi D bs u0 u0 r) X.2.2.2.2.2.1 X.2.2.2.1 0 0 (uA bs u0)) u0 4 [(0, .ref (bs + a0)), (1, .int x1), (2, .int x2), (3, .int x3)] []) (hex : ∀ (x2 : Int32) , G x2 → VV X D bs u0 rmX2_countArrived 4 0 0 (MQ X.2.2.2.2.2.2.1 (uQi D bs u0 u0 r) X.2.2.2.2.2.1 X.2.2.2.1 0 0 (uA bs u0)) u0 31 [(2, .int x2)] [])  : ∀ (x2 : Int32) (x3 : Int32)  e, fX2_countArrived_B4 a0 x1 u0 k x2 x3  = some e → G e → VV X D bs u0 rmX2_countArrived 4 0 0 (MQ X.2.2.2.2.2.2.1 (uQi D bs u0 u0 r) X.2.2.2.2.2.1 X.2.2.2.1 0 0 (uA bs u0)) u0 4 [(0, .ref (bs + a0)), (1, .int x1), (2, .int x2), (3, .int x3)] [] := by
  intro x2 x3  e h g
  unfold fX2_countArrived_B4 at h
  refine v_iload_n C 3 dX2_countArrived_4 rfl rfl ?_
  refine v_iconst C (4 : Int32) dX2_countArrived_5 (by decide) ?_
  refine v_icmpge C 31 dX2_countArrived_6 (by decide) h (fun _ h => ?_) (fun _ h => ?_)
  · refine v_sub [(2, .int x2)] [2] rfl ?_
    exact hex x2 ((Option.some.inj h).symm ▸ g)
  · refine v_iload_n C 2 dX2_countArrived_9 rfl rfl ?_
    refine v_aload_n C 0 dX2_countArrived_10 rfl rfl ?_
    refine v_getR C fdX2_9 dX2_countArrived_11 h (fun b1 h => ?_)
    refine v_iload_n C 1 dX2_countArrived_14 rfl rfl ?_
    refine v_iload_n C 3 dX2_countArrived_15 rfl rfl ?_
    obtain ⟨y2, h1, h⟩ := ob_some h
    refine v_goi (rn_N C gcX2_43 (mX11_placeOf h1) ⟨rfl, rfl⟩ rfl ⟨Nat.le_of_ble_eq_true rfl, Nat.le_of_ble_eq_true rfl⟩ (rest := [.ref (bs + b1), .int x2]) rfl (Nat.le_of_ble_eq_true rfl) ⟨Nat.le_of_ble_eq_true rfl, Nat.le_of_ble_eq_true rfl⟩ dX2_countArrived_16) ?_
    refine v_ldJ C dX2_countArrived_19 h (fun y3 h => ?_)
    obtain ⟨y4, h1, h⟩ := ob_some h
    refine v_goi (rn_S C gcX2_47 (mJ13_bitCount_95d88 h1) ⟨rfl, rfl⟩ rfl ⟨Nat.le_of_ble_eq_true rfl, Nat.le_of_ble_eq_true rfl⟩ (rest := [.int x2]) rfl (Nat.le_of_ble_eq_true rfl) ⟨Nat.le_of_ble_eq_true rfl, Nat.le_of_ble_eq_true rfl⟩ dX2_countArrived_20) ?_
    refine v_iadd C dX2_countArrived_23 ?_
    refine v_lti h (fun y5 h => ?_)
    refine v_istore_n C [(2, .int y5), (0, .ref (bs + a0)), (1, .int x1), (3, .int x3)] dX2_countArrived_24 rfl (by decide) rfl ?_
    refine v_iinc C 3 (x3 + (1 : Int32)) [(3, .int (x3 + (1 : Int32))), (2, .int y5), (0, .ref (bs + a0)), (1, .int x1)] dX2_countArrived_25 rfl rfl (by decide) rfl ?_
    refine v_goto C 4 dX2_countArrived_28 (by decide) ?_
    refine v_sub [(0, .ref (bs + a0)), (1, .int x1), (2, .int y5), (3, .int (x3 + (1 : Int32)))] [2, 3, 1, 0] rfl ?_
    exact hk y5 (x3 + (1 : Int32)) _ h g
set_option maxRecDepth 100000 in
set_option maxHeartbeats 4000000 in
theorem mX2_countArrived {l : Launch} {D : UD} {bs : Nat} {a0 : Nat} {x1 : Int32} {u0 : UH} {r : Int32} (h : fX2_countArrived a0 x1 u0 = some r) : Met l yX2_countArrived (wz yX2_countArrived cX2_countArrived 4 (some .int)) rmX2_countArrived (va_Pc [.ref (bs + a0), .int x1] (uIn D bs u0)) (uQi D bs u0 u0 r) 0 0 (uA bs u0) := by
  refine uMet (by decide) (Nat.le_of_ble_eq_true rfl) ?_
  intro X tw hX C hin
  have C : uCx X D bs tw cX2_countArrived 4 RX2 (some .int) := C
  have hin : X.2.2.2.2.2.2.2.1.name = "countArrived" := hin
  refine v_L [(0, .ref (bs + a0)), (1, .int x1)] rfl ?_
  unfold fX2_countArrived at h
  refine v_iconst C (0 : Int32) dX2_countArrived_0 (by decide) ?_
  refine v_istore_n C [(2, .int (0 : Int32)), (0, .ref (bs + a0)), (1, .int x1)] dX2_countArrived_1 rfl (by decide) rfl ?_
  refine v_iconst C (0 : Int32) dX2_countArrived_2 (by decide) ?_
  refine v_istore_n C [(3, .int (0 : Int32)), (2, .int (0 : Int32)), (0, .ref (bs + a0)), (1, .int x1)] dX2_countArrived_3 rfl (by decide) rfl ?_
  refine v_sub [(0, .ref (bs + a0)), (1, .int x1), (2, .int (0 : Int32)), (3, .int (0 : Int32))] [2, 3, 1, 0] rfl ?_
  refine it2_O (V := fun x2 x3 => VV X D bs u0 rmX2_countArrived 4 0 0 (MQ X.2.2.2.2.2.2.1 (uQi D bs u0 u0 r) X.2.2.2.2.2.1 X.2.2.2.1 0 0 (uA bs u0)) u0 4 [(0, .ref (bs + a0)), (1, .int x1), (2, .int x2), (3, .int x3)] []) h (fun k_ hk_ => wX2_countArrived_B4 C hin hk_ ?_ )
  intro z7 h
  try dsimp only [Sum.elim_inl] at h
  refine v_iload_n C 0 dX2_countArrived_31 rfl rfl ?_
  exact v_iret C dX2_countArrived_32 rfl (Option.some.inj h)
set_option maxRecDepth 100000 in
set_option maxHeartbeats 4000000 in
theorem wX2_countHandled_B16 {X : UX} {D : UD} {bs tw : Nat} {u0 : UH} {r : Int32} (C : uCx X D bs tw cX2_countHandled 6 RX2 (some .int)) (hin : X.2.2.2.2.2.2.2.1.name = "countHandled") {a0 : Nat} {x1 : Int32} {x2 : Int32} {a3 : Nat}  {G : Int32 → Prop} {k : Int32 → Int32 → Option Int32} (hk : ∀ (x4 : Int32) (x5 : Int32)  e, k x4 x5  = some e → G e → VV X D bs u0 rmX2_countHandled 6 0 0 (MQ X.2.2.2.2.2.2.1 (uQi D bs u0 u0 r) X.2.2.2.2.2.1 X.2.2.2.1 0 0 (uA bs u0)) u0 16 [(0, .ref (bs + a0)), (1, .int x1), (2, .int x2), (3, .ref (bs + a3)), (4, .int x4), (5, .int x5)] []) (hex : ∀ (x4 : Int32) , G x4 → VV X D bs u0 rmX2_countHandled 6 0 0 (MQ X.2.2.2.2.2.2.1 (uQi D bs u0 u0 r) X.2.2.2.2.2.1 X.2.2.2.1 0 0 (uA bs u0)) u0 54 [(4, .int x4)] [])  : ∀ (x4 : Int32) (x5 : Int32)  e, fX2_countHandled_B16 a0 x1 x2 a3 u0 k x4 x5  = some e → G e → VV X D bs u0 rmX2_countHandled 6 0 0 (MQ X.2.2.2.2.2.2.1 (uQi D bs u0 u0 r) X.2.2.2.2.2.1 X.2.2.2.1 0 0 (uA bs u0)) u0 16 [(0, .ref (bs + a0)), (1, .int x1), (2, .int x2), (3, .ref (bs + a3)), (4, .int x4), (5, .int x5)] [] := by
  intro x4 x5  e h g
  unfold fX2_countHandled_B16 at h
  refine v_iload C 5 dX2_countHandled_16 rfl ?_
  refine v_iconst C (4 : Int32) dX2_countHandled_18 (by decide) ?_
  refine v_icmpge C 54 dX2_countHandled_19 (by decide) h (fun _ h => ?_) (fun _ h => ?_)
  · refine v_sub [(4, .int x4)] [4] rfl ?_
    exact hex x4 ((Option.some.inj h).symm ▸ g)
  · refine v_iload C 4 dX2_countHandled_22 rfl ?_
    refine v_aload_n C 3 dX2_countHandled_24 rfl rfl ?_
    refine v_iload_n C 2 dX2_countHandled_25 rfl rfl ?_
    refine v_iload C 5 dX2_countHandled_26 rfl ?_
    refine v_aload_n C 0 dX2_countHandled_28 rfl rfl ?_
    refine v_getR C fdX2_9 dX2_countHandled_29 h (fun b4 h => ?_)
    refine v_iload_n C 1 dX2_countHandled_32 rfl rfl ?_
    refine v_iload C 5 dX2_countHandled_33 rfl ?_
    obtain ⟨y5, h1, h⟩ := ob_some h
    refine v_goi (rn_N C gcX2_43 (mX11_placeOf h1) ⟨rfl, rfl⟩ rfl ⟨Nat.le_of_ble_eq_true rfl, Nat.le_of_ble_eq_true rfl⟩ (rest := [.ref (bs + b4), .int x5, .int x2, .ref (bs + a3), .int x4]) rfl (Nat.le_of_ble_eq_true rfl) ⟨Nat.le_of_ble_eq_true rfl, Nat.le_of_ble_eq_true rfl⟩ dX2_countHandled_35) ?_
    refine v_ldJ C dX2_countHandled_38 h (fun y6 h => ?_)
    obtain ⟨y7, h1, h⟩ := ob_some h
    obtain ⟨hkd, h1⟩ := kd_some h1
    refine v_gol (rn_V C gcX2_81 (RX7, TX7, 2) rfl rfl (by decide) hkd (mX7_handled h1) ⟨rfl, rfl⟩ rfl ⟨Nat.le_of_ble_eq_true rfl, Nat.le_of_ble_eq_true rfl⟩ (rest := [.int x4]) rfl (Nat.le_of_ble_eq_true rfl) ⟨Nat.le_of_ble_eq_true rfl, Nat.le_of_ble_eq_true rfl⟩ dX2_countHandled_39) ?_
    obtain ⟨y8, h1, h⟩ := ob_some h
    refine v_goi (rn_S C gcX2_47 (mJ13_bitCount_95d88 h1) ⟨rfl, rfl⟩ rfl ⟨Nat.le_of_ble_eq_true rfl, Nat.le_of_ble_eq_true rfl⟩ (rest := [.int x4]) rfl (Nat.le_of_ble_eq_true rfl) ⟨Nat.le_of_ble_eq_true rfl, Nat.le_of_ble_eq_true rfl⟩ dX2_countHandled_42) ?_
    refine v_iadd C dX2_countHandled_45 ?_
    refine v_lti h (fun y9 h => ?_)
    refine v_istore C [(4, .int y9), (0, .ref (bs + a0)), (1, .int x1), (2, .int x2), (3, .ref (bs + a3)), (5, .int x5)] dX2_countHandled_46 (by decide) rfl ?_
    refine v_iinc C 5 (x5 + (1 : Int32)) [(5, .int (x5 + (1 : Int32))), (4, .int y9), (0, .ref (bs + a0)), (1, .int x1), (2, .int x2), (3, .ref (bs + a3))] dX2_countHandled_48 rfl rfl (by decide) rfl ?_
    refine v_goto C 16 dX2_countHandled_51 (by decide) ?_
    refine v_sub [(0, .ref (bs + a0)), (1, .int x1), (2, .int x2), (3, .ref (bs + a3)), (4, .int y9), (5, .int (x5 + (1 : Int32)))] [2, 3, 4, 5, 1, 0] rfl ?_
    exact hk y9 (x5 + (1 : Int32)) _ h g
set_option maxRecDepth 100000 in
set_option maxHeartbeats 4000000 in
theorem mX2_countHandled {l : Launch} {D : UD} {bs : Nat} {a0 : Nat} {x1 : Int32} {x2 : Int32} {u0 : UH} {r : Int32} (h : fX2_countHandled a0 x1 x2 u0 = some r) : Met l yX2_countHandled (wz yX2_countHandled cX2_countHandled 6 (some .int)) rmX2_countHandled (va_Pc [.ref (bs + a0), .int x1, .int x2] (uIn D bs u0)) (uQi D bs u0 u0 r) 0 0 (uA bs u0) := by
  refine uMet (by decide) (Nat.le_of_ble_eq_true rfl) ?_
  intro X tw hX C hin
  have C : uCx X D bs tw cX2_countHandled 6 RX2 (some .int) := C
  have hin : X.2.2.2.2.2.2.2.1.name = "countHandled" := hin
  refine v_L [(0, .ref (bs + a0)), (1, .int x1), (2, .int x2)] rfl ?_
  unfold fX2_countHandled at h
  refine v_aload_n C 0 dX2_countHandled_0 rfl rfl ?_
  refine v_getR C fdX2_21 dX2_countHandled_1 h (fun b1 h => ?_)
  refine v_getR C fdX2_53 dX2_countHandled_4 h (fun b2 h => ?_)
  refine v_iload_n C 1 dX2_countHandled_7 rfl rfl ?_
  refine v_ldR C 26 _ rfl (by decide) dX2_countHandled_8 h (fun b3 h => ?_)
  refine v_astore_n C [(3, .ref (bs + b3)), (0, .ref (bs + a0)), (1, .int x1), (2, .int x2)] dX2_countHandled_9 rfl (by decide) rfl ?_
  refine v_iconst C (0 : Int32) dX2_countHandled_10 (by decide) ?_
  refine v_istore C [(4, .int (0 : Int32)), (3, .ref (bs + b3)), (0, .ref (bs + a0)), (1, .int x1), (2, .int x2)] dX2_countHandled_11 (by decide) rfl ?_
  refine v_iconst C (0 : Int32) dX2_countHandled_13 (by decide) ?_
  refine v_istore C [(5, .int (0 : Int32)), (4, .int (0 : Int32)), (3, .ref (bs + b3)), (0, .ref (bs + a0)), (1, .int x1), (2, .int x2)] dX2_countHandled_14 (by decide) rfl ?_
  refine v_sub [(0, .ref (bs + a0)), (1, .int x1), (2, .int x2), (3, .ref (bs + b3)), (4, .int (0 : Int32)), (5, .int (0 : Int32))] [3, 4, 5, 2, 1, 0] rfl ?_
  refine it2_O (V := fun x4 x5 => VV X D bs u0 rmX2_countHandled 6 0 0 (MQ X.2.2.2.2.2.2.1 (uQi D bs u0 u0 r) X.2.2.2.2.2.1 X.2.2.2.1 0 0 (uA bs u0)) u0 16 [(0, .ref (bs + a0)), (1, .int x1), (2, .int x2), (3, .ref (bs + b3)), (4, .int x4), (5, .int x5)] []) h (fun k_ hk_ => wX2_countHandled_B16 C hin hk_ ?_ )
  intro z11 h
  try dsimp only [Sum.elim_inl] at h
  refine v_iload C 0 dX2_countHandled_54 rfl ?_
  exact v_iret C dX2_countHandled_56 rfl (Option.some.inj h)
set_option maxRecDepth 100000 in
set_option maxHeartbeats 4000000 in
theorem wX2_countDropped_B15 {X : UX} {D : UD} {bs tw : Nat} {u0 : UH} {r : Int32} (C : uCx X D bs tw cX2_countDropped 5 RX2 (some .int)) (hin : X.2.2.2.2.2.2.2.1.name = "countDropped") {a0 : Nat} {x1 : Int32} {a2 : Nat}  {G : Int32 → Prop} {k : Int32 → Int32 → Option Int32} (hk : ∀ (x3 : Int32) (x4 : Int32)  e, k x3 x4  = some e → G e → VV X D bs u0 rmX2_countDropped 5 0 0 (MQ X.2.2.2.2.2.2.1 (uQi D bs u0 u0 r) X.2.2.2.2.2.1 X.2.2.2.1 0 0 (uA bs u0)) u0 15 [(0, .ref (bs + a0)), (1, .int x1), (2, .ref (bs + a2)), (3, .int x3), (4, .int x4)] []) (hex : ∀ (x3 : Int32) , G x3 → VV X D bs u0 rmX2_countDropped 5 0 0 (MQ X.2.2.2.2.2.2.1 (uQi D bs u0 u0 r) X.2.2.2.2.2.1 X.2.2.2.1 0 0 (uA bs u0)) u0 53 [(3, .int x3)] [])  : ∀ (x3 : Int32) (x4 : Int32)  e, fX2_countDropped_B15 a0 x1 a2 u0 k x3 x4  = some e → G e → VV X D bs u0 rmX2_countDropped 5 0 0 (MQ X.2.2.2.2.2.2.1 (uQi D bs u0 u0 r) X.2.2.2.2.2.1 X.2.2.2.1 0 0 (uA bs u0)) u0 15 [(0, .ref (bs + a0)), (1, .int x1), (2, .ref (bs + a2)), (3, .int x3), (4, .int x4)] [] := by
  intro x3 x4  e h g
  unfold fX2_countDropped_B15 at h
  refine v_iload C 4 dX2_countDropped_15 rfl ?_
  refine v_aload_n C 2 dX2_countDropped_17 rfl rfl ?_
  refine v_getI C fdX2_59 dX2_countDropped_18 h (fun y4 h => ?_)
  refine v_icmpge C 53 dX2_countDropped_21 (by decide) h (fun _ h => ?_) (fun _ h => ?_)
  · refine v_sub [(3, .int x3)] [3] rfl ?_
    exact hex x3 ((Option.some.inj h).symm ▸ g)
  · refine v_aload_n C 2 dX2_countDropped_24 rfl rfl ?_
    refine v_getR C fdX2_69 dX2_countDropped_25 h (fun b5 h => ?_)
    refine v_iload C 4 dX2_countDropped_28 rfl ?_
    refine v_ldR C 25 _ rfl (by decide) dX2_countDropped_30 h (fun b6 h => ?_)
    refine v_getI C fdX2_73 dX2_countDropped_31 h (fun y7 h => ?_)
    refine v_ifne C 47 dX2_countDropped_34 (by decide) h (fun _ h => ?_) (fun _ h => ?_)
    · refine v_iinc C 4 (x4 + (1 : Int32)) [(4, .int (x4 + (1 : Int32))), (0, .ref (bs + a0)), (1, .int x1), (2, .ref (bs + a2)), (3, .int x3)] dX2_countDropped_47 rfl rfl (by decide) rfl ?_
      refine v_goto C 15 dX2_countDropped_50 (by decide) ?_
      refine v_sub [(0, .ref (bs + a0)), (1, .int x1), (2, .ref (bs + a2)), (3, .int x3), (4, .int (x4 + (1 : Int32)))] [1, 2, 3, 4, 0] rfl ?_
      exact hk x3 (x4 + (1 : Int32)) _ h g
    · refine v_iload_n C 3 dX2_countDropped_37 rfl rfl ?_
      refine v_aload_n C 0 dX2_countDropped_38 rfl rfl ?_
      refine v_iload_n C 1 dX2_countDropped_39 rfl rfl ?_
      refine v_iload C 4 dX2_countDropped_40 rfl ?_
      obtain ⟨y8, h1, h⟩ := ob_some h
      obtain ⟨hkd, h1⟩ := kd_some h1
      refine v_goi (rn_V C gcX2_78 (RX2, TX2, 4) rfl rfl (by decide) hkd (mX2_countHandled h1) ⟨rfl, rfl⟩ rfl ⟨Nat.le_of_ble_eq_true rfl, Nat.le_of_ble_eq_true rfl⟩ (rest := [.int x3]) rfl (Nat.le_of_ble_eq_true rfl) ⟨Nat.le_of_ble_eq_true rfl, Nat.le_of_ble_eq_true rfl⟩ dX2_countDropped_42) ?_
      refine v_iadd C dX2_countDropped_45 ?_
      refine v_lti h (fun y9 h => ?_)
      refine v_istore_n C [(3, .int y9), (0, .ref (bs + a0)), (1, .int x1), (2, .ref (bs + a2)), (4, .int x4)] dX2_countDropped_46 rfl (by decide) rfl ?_
      refine v_iinc C 4 (x4 + (1 : Int32)) [(4, .int (x4 + (1 : Int32))), (3, .int y9), (0, .ref (bs + a0)), (1, .int x1), (2, .ref (bs + a2))] dX2_countDropped_47 rfl rfl (by decide) rfl ?_
      refine v_goto C 15 dX2_countDropped_50 (by decide) ?_
      refine v_sub [(0, .ref (bs + a0)), (1, .int x1), (2, .ref (bs + a2)), (3, .int y9), (4, .int (x4 + (1 : Int32)))] [2, 3, 4, 1, 0] rfl ?_
      exact hk y9 (x4 + (1 : Int32)) _ h g
set_option maxRecDepth 100000 in
set_option maxHeartbeats 4000000 in
theorem mX2_countDropped {l : Launch} {D : UD} {bs : Nat} {a0 : Nat} {x1 : Int32} {u0 : UH} {r : Int32} (h : fX2_countDropped a0 x1 u0 = some r) : Met l yX2_countDropped (wz yX2_countDropped cX2_countDropped 5 (some .int)) rmX2_countDropped (va_Pc [.ref (bs + a0), .int x1] (uIn D bs u0)) (uQi D bs u0 u0 r) 0 0 (uA bs u0) := by
  refine uMet (by decide) (Nat.le_of_ble_eq_true rfl) ?_
  intro X tw hX C hin
  have C : uCx X D bs tw cX2_countDropped 5 RX2 (some .int) := C
  have hin : X.2.2.2.2.2.2.2.1.name = "countDropped" := hin
  refine v_L [(0, .ref (bs + a0)), (1, .int x1)] rfl ?_
  unfold fX2_countDropped at h
  refine v_aload_n C 0 dX2_countDropped_0 rfl rfl ?_
  refine v_getR C fdX2_21 dX2_countDropped_1 h (fun b1 h => ?_)
  refine v_getR C fdX2_53 dX2_countDropped_4 h (fun b2 h => ?_)
  refine v_iload_n C 1 dX2_countDropped_7 rfl rfl ?_
  refine v_ldR C 26 _ rfl (by decide) dX2_countDropped_8 h (fun b3 h => ?_)
  refine v_astore_n C [(2, .ref (bs + b3)), (0, .ref (bs + a0)), (1, .int x1)] dX2_countDropped_9 rfl (by decide) rfl ?_
  refine v_iconst C (0 : Int32) dX2_countDropped_10 (by decide) ?_
  refine v_istore_n C [(3, .int (0 : Int32)), (2, .ref (bs + b3)), (0, .ref (bs + a0)), (1, .int x1)] dX2_countDropped_11 rfl (by decide) rfl ?_
  refine v_iconst C (0 : Int32) dX2_countDropped_12 (by decide) ?_
  refine v_istore C [(4, .int (0 : Int32)), (3, .int (0 : Int32)), (2, .ref (bs + b3)), (0, .ref (bs + a0)), (1, .int x1)] dX2_countDropped_13 (by decide) rfl ?_
  refine v_sub [(0, .ref (bs + a0)), (1, .int x1), (2, .ref (bs + b3)), (3, .int (0 : Int32)), (4, .int (0 : Int32))] [3, 4, 2, 1, 0] rfl ?_
  refine it2_O (V := fun x3 x4 => VV X D bs u0 rmX2_countDropped 5 0 0 (MQ X.2.2.2.2.2.2.1 (uQi D bs u0 u0 r) X.2.2.2.2.2.1 X.2.2.2.1 0 0 (uA bs u0)) u0 15 [(0, .ref (bs + a0)), (1, .int x1), (2, .ref (bs + b3)), (3, .int x3), (4, .int x4)] []) h (fun k_ hk_ => wX2_countDropped_B15 C hin hk_ ?_ )
  intro z11 h
  try dsimp only [Sum.elim_inl] at h
  refine v_iload_n C 0 dX2_countDropped_53 rfl rfl ?_
  exact v_iret C dX2_countDropped_54 rfl (Option.some.inj h)
set_option maxRecDepth 100000 in
set_option maxHeartbeats 4000000 in
theorem wX2_countLost_B15 {X : UX} {D : UD} {bs tw : Nat} {u0 : UH} {r : Int32} (C : uCx X D bs tw cX2_countLost 5 RX2 (some .int)) (hin : X.2.2.2.2.2.2.2.1.name = "countLost") {a0 : Nat} {x1 : Int32} {a2 : Nat}  {G : Int32 → Prop} {k : Int32 → Int32 → Option Int32} (hk : ∀ (x3 : Int32) (x4 : Int32)  e, k x3 x4  = some e → G e → VV X D bs u0 rmX2_countLost 5 0 0 (MQ X.2.2.2.2.2.2.1 (uQi D bs u0 u0 r) X.2.2.2.2.2.1 X.2.2.2.1 0 0 (uA bs u0)) u0 15 [(0, .ref (bs + a0)), (1, .int x1), (2, .ref (bs + a2)), (3, .int x3), (4, .int x4)] []) (hex : ∀ (x3 : Int32) , G x3 → VV X D bs u0 rmX2_countLost 5 0 0 (MQ X.2.2.2.2.2.2.1 (uQi D bs u0 u0 r) X.2.2.2.2.2.1 X.2.2.2.1 0 0 (uA bs u0)) u0 54 [(3, .int x3)] [])  : ∀ (x3 : Int32) (x4 : Int32)  e, fX2_countLost_B15 a0 x1 a2 u0 k x3 x4  = some e → G e → VV X D bs u0 rmX2_countLost 5 0 0 (MQ X.2.2.2.2.2.2.1 (uQi D bs u0 u0 r) X.2.2.2.2.2.1 X.2.2.2.1 0 0 (uA bs u0)) u0 15 [(0, .ref (bs + a0)), (1, .int x1), (2, .ref (bs + a2)), (3, .int x3), (4, .int x4)] [] := by
  intro x3 x4  e h g
  unfold fX2_countLost_B15 at h
  refine v_iload C 4 dX2_countLost_15 rfl ?_
  refine v_iconst C (4 : Int32) dX2_countLost_17 (by decide) ?_
  refine v_icmpge C 54 dX2_countLost_18 (by decide) h (fun _ h => ?_) (fun _ h => ?_)
  · refine v_sub [(3, .int x3)] [3] rfl ?_
    exact hex x3 ((Option.some.inj h).symm ▸ g)
  · refine v_iload_n C 3 dX2_countLost_21 rfl rfl ?_
    refine v_aload_n C 2 dX2_countLost_22 rfl rfl ?_
    refine v_aload_n C 2 dX2_countLost_23 rfl rfl ?_
    refine v_getI C fdX2_59 dX2_countLost_24 h (fun y4 h => ?_)
    refine v_iload C 4 dX2_countLost_27 rfl ?_
    refine v_aload_n C 0 dX2_countLost_29 rfl rfl ?_
    refine v_getR C fdX2_9 dX2_countLost_30 h (fun b5 h => ?_)
    refine v_iload_n C 1 dX2_countLost_33 rfl rfl ?_
    refine v_iload C 4 dX2_countLost_34 rfl ?_
    obtain ⟨y6, h1, h⟩ := ob_some h
    refine v_goi (rn_N C gcX2_43 (mX11_placeOf h1) ⟨rfl, rfl⟩ rfl ⟨Nat.le_of_ble_eq_true rfl, Nat.le_of_ble_eq_true rfl⟩ (rest := [.ref (bs + b5), .int x4, .int y4, .ref (bs + a2), .int x3]) rfl (Nat.le_of_ble_eq_true rfl) ⟨Nat.le_of_ble_eq_true rfl, Nat.le_of_ble_eq_true rfl⟩ dX2_countLost_36) ?_
    refine v_ldJ C dX2_countLost_39 h (fun y7 h => ?_)
    obtain ⟨y8, h1, h⟩ := ob_some h
    obtain ⟨hkd, h1⟩ := kd_some h1
    refine v_gol (rn_V C gcX2_65 (RX7, TX7, 2) rfl rfl (by decide) hkd (mX7_leftFor h1) ⟨rfl, rfl⟩ rfl ⟨Nat.le_of_ble_eq_true rfl, Nat.le_of_ble_eq_true rfl⟩ (rest := [.int x3]) rfl (Nat.le_of_ble_eq_true rfl) ⟨Nat.le_of_ble_eq_true rfl, Nat.le_of_ble_eq_true rfl⟩ dX2_countLost_40) ?_
    obtain ⟨y9, h1, h⟩ := ob_some h
    refine v_goi (rn_S C gcX2_47 (mJ13_bitCount_95d88 h1) ⟨rfl, rfl⟩ rfl ⟨Nat.le_of_ble_eq_true rfl, Nat.le_of_ble_eq_true rfl⟩ (rest := [.int x3]) rfl (Nat.le_of_ble_eq_true rfl) ⟨Nat.le_of_ble_eq_true rfl, Nat.le_of_ble_eq_true rfl⟩ dX2_countLost_43) ?_
    refine v_iadd C dX2_countLost_46 ?_
    refine v_lti h (fun y10 h => ?_)
    refine v_istore_n C [(3, .int y10), (0, .ref (bs + a0)), (1, .int x1), (2, .ref (bs + a2)), (4, .int x4)] dX2_countLost_47 rfl (by decide) rfl ?_
    refine v_iinc C 4 (x4 + (1 : Int32)) [(4, .int (x4 + (1 : Int32))), (3, .int y10), (0, .ref (bs + a0)), (1, .int x1), (2, .ref (bs + a2))] dX2_countLost_48 rfl rfl (by decide) rfl ?_
    refine v_goto C 15 dX2_countLost_51 (by decide) ?_
    refine v_sub [(0, .ref (bs + a0)), (1, .int x1), (2, .ref (bs + a2)), (3, .int y10), (4, .int (x4 + (1 : Int32)))] [2, 3, 4, 1, 0] rfl ?_
    exact hk y10 (x4 + (1 : Int32)) _ h g
set_option maxRecDepth 100000 in
set_option maxHeartbeats 4000000 in
theorem mX2_countLost {l : Launch} {D : UD} {bs : Nat} {a0 : Nat} {x1 : Int32} {u0 : UH} {r : Int32} (h : fX2_countLost a0 x1 u0 = some r) : Met l yX2_countLost (wz yX2_countLost cX2_countLost 5 (some .int)) rmX2_countLost (va_Pc [.ref (bs + a0), .int x1] (uIn D bs u0)) (uQi D bs u0 u0 r) 0 0 (uA bs u0) := by
  refine uMet (by decide) (Nat.le_of_ble_eq_true rfl) ?_
  intro X tw hX C hin
  have C : uCx X D bs tw cX2_countLost 5 RX2 (some .int) := C
  have hin : X.2.2.2.2.2.2.2.1.name = "countLost" := hin
  refine v_L [(0, .ref (bs + a0)), (1, .int x1)] rfl ?_
  unfold fX2_countLost at h
  refine v_aload_n C 0 dX2_countLost_0 rfl rfl ?_
  refine v_getR C fdX2_21 dX2_countLost_1 h (fun b1 h => ?_)
  refine v_getR C fdX2_53 dX2_countLost_4 h (fun b2 h => ?_)
  refine v_iload_n C 1 dX2_countLost_7 rfl rfl ?_
  refine v_ldR C 26 _ rfl (by decide) dX2_countLost_8 h (fun b3 h => ?_)
  refine v_astore_n C [(2, .ref (bs + b3)), (0, .ref (bs + a0)), (1, .int x1)] dX2_countLost_9 rfl (by decide) rfl ?_
  refine v_iconst C (0 : Int32) dX2_countLost_10 (by decide) ?_
  refine v_istore_n C [(3, .int (0 : Int32)), (2, .ref (bs + b3)), (0, .ref (bs + a0)), (1, .int x1)] dX2_countLost_11 rfl (by decide) rfl ?_
  refine v_iconst C (0 : Int32) dX2_countLost_12 (by decide) ?_
  refine v_istore C [(4, .int (0 : Int32)), (3, .int (0 : Int32)), (2, .ref (bs + b3)), (0, .ref (bs + a0)), (1, .int x1)] dX2_countLost_13 (by decide) rfl ?_
  refine v_sub [(0, .ref (bs + a0)), (1, .int x1), (2, .ref (bs + b3)), (3, .int (0 : Int32)), (4, .int (0 : Int32))] [3, 4, 2, 1, 0] rfl ?_
  refine it2_O (V := fun x3 x4 => VV X D bs u0 rmX2_countLost 5 0 0 (MQ X.2.2.2.2.2.2.1 (uQi D bs u0 u0 r) X.2.2.2.2.2.1 X.2.2.2.1 0 0 (uA bs u0)) u0 15 [(0, .ref (bs + a0)), (1, .int x1), (2, .ref (bs + b3)), (3, .int x3), (4, .int x4)] []) h (fun k_ hk_ => wX2_countLost_B15 C hin hk_ ?_ )
  intro z12 h
  try dsimp only [Sum.elim_inl] at h
  refine v_iload_n C 0 dX2_countLost_54 rfl rfl ?_
  exact v_iret C dX2_countLost_55 rfl (Option.some.inj h)
set_option maxRecDepth 100000 in
set_option maxHeartbeats 4000000 in
theorem mX11_arrivals {l : Launch} {D : UD} {bs : Nat} {a0 : Nat} {x1 : Int32} {x2 : Int32} {u0 : UH} {r : Int32} {v : UH} (h : fX11_arrivals a0 x1 x2 u0 = some (r, v)) : Met l yX11_arrivals (wz yX11_arrivals cX11_arrivals 3 (some .int)) rmX11_arrivals (va_Pc [.ref (bs + a0), .int x1, .int x2] (uIn D bs u0)) (uQi D bs u0 v r) 0 0 (uA bs u0) := by
  refine uMet (by decide) (Nat.le_of_ble_eq_true rfl) ?_
  intro X tw hX C hin
  have C : uCx X D bs tw cX11_arrivals 3 RX11 (some .int) := C
  have hin : X.2.2.2.2.2.2.2.1.name = "arrivals" := hin
  refine v_L [(0, .ref (bs + a0)), (1, .int x1), (2, .int x2)] rfl ?_
  unfold fX11_arrivals at h
  refine v_iload_n C 1 dX11_arrivals_0 rfl rfl ?_
  obtain ⟨y1, h1, h⟩ := ob_some h
  refine v_goi (rn_S C gcX11_116 (mX11_isBox h1) ⟨rfl, rfl⟩ rfl ⟨Nat.le_of_ble_eq_true rfl, Nat.le_of_ble_eq_true rfl⟩ (rest := []) rfl (Nat.le_of_ble_eq_true rfl) ⟨Nat.le_of_ble_eq_true rfl, Nat.le_of_ble_eq_true rfl⟩ dX11_arrivals_1) ?_
  refine v_ifne C 9 dX11_arrivals_4 (by decide) h (fun _ h => ?_) (fun _ h => ?_)
  · refine v_iload_n C 2 dX11_arrivals_9 rfl rfl ?_
    refine v_iflt C 18 dX11_arrivals_10 (by decide) h (fun _ h => ?_) (fun _ h => ?_)
    · refine v_bipush C (-3 : Int32) dX11_arrivals_18 (by decide) ?_
      exact v_iret C dX11_arrivals_20 (Prod.mk.inj (Option.some.inj h)).2 (Prod.mk.inj (Option.some.inj h)).1
    · refine v_iload_n C 2 dX11_arrivals_13 rfl rfl ?_
      refine v_iconst C (2 : Int32) dX11_arrivals_14 (by decide) ?_
      refine v_icmple C 21 dX11_arrivals_15 (by decide) h (fun _ h => ?_) (fun _ h => ?_)
      · refine v_aload_n C 0 dX11_arrivals_21 rfl rfl ?_
        refine v_getR C fdX11_30 dX11_arrivals_22 h (fun b2 h => ?_)
        refine v_aload_n C 0 dX11_arrivals_25 rfl rfl ?_
        refine v_getI C fdX11_98 dX11_arrivals_26 h (fun y3 h => ?_)
        refine v_aload_n C 0 dX11_arrivals_29 rfl rfl ?_
        refine v_getJ C fdX11_80 dX11_arrivals_30 h (fun y4 h => ?_)
        obtain ⟨u5, h1, h⟩ := ob_some h
        obtain ⟨hkd, h1⟩ := kd_some h1
        refine v_gov (rn_V C gcX11_218 (RX2, TX2, 4) rfl rfl (by decide) hkd (mX2_spreadFrom h1) ⟨rfl, rfl⟩ rfl ⟨Nat.le_of_ble_eq_true rfl, Nat.le_of_ble_eq_true rfl⟩ (rest := []) rfl (Nat.le_of_ble_eq_true rfl) ⟨Nat.le_of_ble_eq_true rfl, Nat.le_of_ble_eq_true rfl⟩ dX11_arrivals_33) ?_
        refine v_iload_n C 2 dX11_arrivals_36 rfl rfl ?_
        by_cases hx0 : x2 = (0 : Int32)
        · rw [if_pos hx0] at h
          refine v_lsw C dX11_arrivals_37 (by decide) 64 (by rw [hx0]; try rfl) (by decide) ?_
          refine v_aload_n C 0 dX11_arrivals_64 rfl rfl ?_
          refine v_getR C fdX11_30 dX11_arrivals_65 h (fun b8 h => ?_)
          refine v_iload_n C 1 dX11_arrivals_68 rfl rfl ?_
          obtain ⟨y9, h1, h⟩ := ob_some h
          obtain ⟨hkd, h1⟩ := kd_some h1
          refine v_goi (rn_V C gcX11_229 (RX2, TX2, 4) rfl rfl (by decide) hkd (mX2_countArrived h1) ⟨rfl, rfl⟩ rfl ⟨Nat.le_of_ble_eq_true rfl, Nat.le_of_ble_eq_true rfl⟩ (rest := []) rfl (Nat.le_of_ble_eq_true rfl) ⟨Nat.le_of_ble_eq_true rfl, Nat.le_of_ble_eq_true rfl⟩ dX11_arrivals_69) ?_
          exact v_iret C dX11_arrivals_72 (Prod.mk.inj (Option.some.inj h)).2 (Prod.mk.inj (Option.some.inj h)).1
        rw [if_neg hx0] at h
        by_cases hx1 : x2 = (1 : Int32)
        · rw [if_pos hx1] at h
          refine v_lsw C dX11_arrivals_37 (by decide) 73 (by rw [hx1]; try rfl) (by decide) ?_
          refine v_aload_n C 0 dX11_arrivals_73 rfl rfl ?_
          refine v_getR C fdX11_30 dX11_arrivals_74 h (fun b10 h => ?_)
          refine v_iload_n C 1 dX11_arrivals_77 rfl rfl ?_
          obtain ⟨y11, h1, h⟩ := ob_some h
          obtain ⟨hkd, h1⟩ := kd_some h1
          refine v_goi (rn_V C gcX11_233 (RX2, TX2, 4) rfl rfl (by decide) hkd (mX2_countDropped h1) ⟨rfl, rfl⟩ rfl ⟨Nat.le_of_ble_eq_true rfl, Nat.le_of_ble_eq_true rfl⟩ (rest := []) rfl (Nat.le_of_ble_eq_true rfl) ⟨Nat.le_of_ble_eq_true rfl, Nat.le_of_ble_eq_true rfl⟩ dX11_arrivals_78) ?_
          exact v_iret C dX11_arrivals_81 (Prod.mk.inj (Option.some.inj h)).2 (Prod.mk.inj (Option.some.inj h)).1
        rw [if_neg hx1] at h
        have hy0 : x2.toInt ≠ 0 := fun z => hx0 (Int32.toInt_inj.mp (by rw [z]; rfl))
        have hy1 : x2.toInt ≠ 1 := fun z => hx1 (Int32.toInt_inj.mp (by rw [z]; rfl))
        refine v_lsw C dX11_arrivals_37 (by decide) 82 (by simp only [Op.lookupswitch.offset_cons, Op.lookupswitch.offset_nil, if_neg (Ne.symm hy0), if_neg hy0, hy0, if_neg (Ne.symm hy1), if_neg hy1, hy1]; rfl) (by decide) ?_
        refine v_aload_n C 0 dX11_arrivals_82 rfl rfl ?_
        refine v_getR C fdX11_30 dX11_arrivals_83 h (fun b6 h => ?_)
        refine v_iload_n C 1 dX11_arrivals_86 rfl rfl ?_
        obtain ⟨y7, h1, h⟩ := ob_some h
        obtain ⟨hkd, h1⟩ := kd_some h1
        refine v_goi (rn_V C gcX11_236 (RX2, TX2, 4) rfl rfl (by decide) hkd (mX2_countLost h1) ⟨rfl, rfl⟩ rfl ⟨Nat.le_of_ble_eq_true rfl, Nat.le_of_ble_eq_true rfl⟩ (rest := []) rfl (Nat.le_of_ble_eq_true rfl) ⟨Nat.le_of_ble_eq_true rfl, Nat.le_of_ble_eq_true rfl⟩ dX11_arrivals_87) ?_
        exact v_iret C dX11_arrivals_90 (Prod.mk.inj (Option.some.inj h)).2 (Prod.mk.inj (Option.some.inj h)).1
      · refine v_bipush C (-3 : Int32) dX11_arrivals_18 (by decide) ?_
        exact v_iret C dX11_arrivals_20 (Prod.mk.inj (Option.some.inj h)).2 (Prod.mk.inj (Option.some.inj h)).1
  · refine v_iconst C (-1 : Int32) dX11_arrivals_7 (by decide) ?_
    exact v_iret C dX11_arrivals_8 (Prod.mk.inj (Option.some.inj h)).2 (Prod.mk.inj (Option.some.inj h)).1
set_option maxRecDepth 100000 in
set_option maxHeartbeats 4000000 in
theorem mX11_hits {l : Launch} {D : UD} {bs : Nat} {a0 : Nat} {x1 : Int32} {x2 : Int32} {u0 : UH} {r : Int32} {v : UH} (h : fX11_hits a0 x1 x2 u0 = some (r, v)) : Met l yX11_hits (wz yX11_hits cX11_hits 4 (some .int)) rmX11_hits (va_Pc [.ref (bs + a0), .int x1, .int x2] (uIn D bs u0)) (uQi D bs u0 v r) 0 0 (uA bs u0) := by
  refine uMet (by decide) (Nat.le_of_ble_eq_true rfl) ?_
  intro X tw hX C hin
  have C : uCx X D bs tw cX11_hits 4 RX11 (some .int) := C
  have hin : X.2.2.2.2.2.2.2.1.name = "hits" := hin
  refine v_L [(0, .ref (bs + a0)), (1, .int x1), (2, .int x2)] rfl ?_
  unfold fX11_hits at h
  refine v_aload_n C 0 dX11_hits_0 rfl rfl ?_
  refine v_iload_n C 1 dX11_hits_1 rfl rfl ?_
  refine v_iload_n C 2 dX11_hits_2 rfl rfl ?_
  obtain ⟨y1, h1, h⟩ := ob_some h
  obtain ⟨hkd, h1⟩ := kd_some h1
  refine v_goi (rn_V C gcX11_136 (RX11, TX11, 12) rfl rfl (by decide) hkd (mX11_ruleError h1) ⟨rfl, rfl⟩ rfl ⟨Nat.le_of_ble_eq_true rfl, Nat.le_of_ble_eq_true rfl⟩ (rest := []) rfl (Nat.le_of_ble_eq_true rfl) ⟨Nat.le_of_ble_eq_true rfl, Nat.le_of_ble_eq_true rfl⟩ dX11_hits_3) ?_
  refine v_istore_n C [(3, .int y1), (0, .ref (bs + a0)), (1, .int x1), (2, .int x2)] dX11_hits_6 rfl (by decide) rfl ?_
  refine v_iload_n C 0 dX11_hits_7 rfl rfl ?_
  refine v_ifeq C 13 dX11_hits_8 (by decide) h (fun _ h => ?_) (fun _ h => ?_)
  · refine v_aload_n C 1 dX11_hits_13 rfl rfl ?_
    refine v_getR C fdX11_30 dX11_hits_14 h (fun b2 h => ?_)
    refine v_aload_n C 1 dX11_hits_17 rfl rfl ?_
    refine v_getI C fdX11_98 dX11_hits_18 h (fun y3 h => ?_)
    refine v_aload_n C 1 dX11_hits_21 rfl rfl ?_
    refine v_getJ C fdX11_80 dX11_hits_22 h (fun y4 h => ?_)
    obtain ⟨u5, h1, h⟩ := ob_some h
    obtain ⟨hkd, h1⟩ := kd_some h1
    refine v_gov (rn_V C gcX11_218 (RX2, TX2, 4) rfl rfl (by decide) hkd (mX2_spreadFrom h1) ⟨rfl, rfl⟩ rfl ⟨Nat.le_of_ble_eq_true rfl, Nat.le_of_ble_eq_true rfl⟩ (rest := []) rfl (Nat.le_of_ble_eq_true rfl) ⟨Nat.le_of_ble_eq_true rfl, Nat.le_of_ble_eq_true rfl⟩ dX11_hits_25) ?_
    refine v_aload_n C 1 dX11_hits_28 rfl rfl ?_
    refine v_getR C fdX11_30 dX11_hits_29 h (fun b6 h => ?_)
    refine v_iload_n C 2 dX11_hits_32 rfl rfl ?_
    refine v_iload_n C 3 dX11_hits_33 rfl rfl ?_
    obtain ⟨y7, h1, h⟩ := ob_some h
    obtain ⟨hkd, h1⟩ := kd_some h1
    refine v_goi (rn_V C gcX11_239 (RX2, TX2, 4) rfl rfl (by decide) hkd (mX2_countHandled h1) ⟨rfl, rfl⟩ rfl ⟨Nat.le_of_ble_eq_true rfl, Nat.le_of_ble_eq_true rfl⟩ (rest := []) rfl (Nat.le_of_ble_eq_true rfl) ⟨Nat.le_of_ble_eq_true rfl, Nat.le_of_ble_eq_true rfl⟩ dX11_hits_34) ?_
    exact v_iret C dX11_hits_37 (Prod.mk.inj (Option.some.inj h)).2 (Prod.mk.inj (Option.some.inj h)).1
  · refine v_iload_n C 0 dX11_hits_11 rfl rfl ?_
    exact v_iret C dX11_hits_12 (Prod.mk.inj (Option.some.inj h)).2 (Prod.mk.inj (Option.some.inj h)).1
set_option maxRecDepth 100000 in
set_option maxHeartbeats 4000000 in
theorem mX11_hasHeader {l : Launch} {D : UD} {bs : Nat} {x0 : Int64} {x2 : Int32} {u0 : UH} {r : Int32} (h : fX11_hasHeader x0 x2 u0 = some r) : Met l yX11_hasHeader (wz yX11_hasHeader cX11_hasHeader 3 (some .boolean)) rmX11_hasHeader (va_Pc [.long x0, .int x2] (uIn D bs u0)) (uQi D bs u0 u0 r) 0 0 (uA bs u0) := by
  refine uMet (by decide) (Nat.le_of_ble_eq_true rfl) ?_
  intro X tw hX C hin
  have C : uCx X D bs tw cX11_hasHeader 3 RX11 (some .boolean) := C
  have hin : X.2.2.2.2.2.2.2.1.name = "hasHeader" := hin
  refine v_L [(0, .long x0), (2, .int x2)] rfl ?_
  unfold fX11_hasHeader at h
  refine v_lload_n C 0 dX11_hasHeader_0 rfl rfl ?_
  refine v_iload_n C 1 dX11_hasHeader_1 rfl rfl ?_
  refine v_lushr C dX11_hasHeader_2 ?_
  refine v_lconst C (1 : Int64) dX11_hasHeader_3 (by decide) ?_
  refine v_land C dX11_hasHeader_4 ?_
  refine v_lconst C (0 : Int64) dX11_hasHeader_5 (by decide) ?_
  refine v_lcmpeq C 14 dX11_hasHeader_6 dX11_hasHeader_7 (by decide) h (fun _ h => ?_) (fun _ h => ?_)
  · refine v_iconst C (0 : Int32) dX11_hasHeader_14 (by decide) ?_
    exact v_zret C dX11_hasHeader_15 rfl (Option.some.inj h) rfl
  · refine v_iconst C (1 : Int32) dX11_hasHeader_10 (by decide) ?_
    refine v_goto C 15 dX11_hasHeader_11 (by decide) ?_
    exact v_zret C dX11_hasHeader_15 rfl (Option.some.inj h) rfl
set_option maxRecDepth 100000 in
set_option maxHeartbeats 4000000 in
theorem wX11_widestCare_B16 {X : UX} {D : UD} {bs tw : Nat} {u0 : UH} {r : Int32} (C : uCx X D bs tw cX11_widestCare 9 RX11 (some .int)) (hin : X.2.2.2.2.2.2.2.1.name = "widestCare") {a0 : Nat} {x1 : Int32} {x2 : Int64}  {G : Int32 → Prop} {k : Int32 → Int32 → Option Int32} (hk : ∀ (x4 : Int32) (x5 : Int32)  e, k x4 x5  = some e → G e → VV X D bs u0 rmX11_widestCare 9 0 0 (MQ X.2.2.2.2.2.2.1 (uQi D bs u0 u0 r) X.2.2.2.2.2.1 X.2.2.2.1 0 0 (uA bs u0)) u0 16 [(0, .ref (bs + a0)), (1, .int x1), (2, .long x2), (4, .int x4), (5, .int x5)] []) (hex : ∀ (x4 : Int32) , G x4 → VV X D bs u0 rmX11_widestCare 9 0 0 (MQ X.2.2.2.2.2.2.1 (uQi D bs u0 u0 r) X.2.2.2.2.2.1 X.2.2.2.1 0 0 (uA bs u0)) u0 78 [(4, .int x4)] [])  : ∀ (x4 : Int32) (x5 : Int32)  e, fX11_widestCare_B16 a0 x1 x2 u0 k x4 x5  = some e → G e → VV X D bs u0 rmX11_widestCare 9 0 0 (MQ X.2.2.2.2.2.2.1 (uQi D bs u0 u0 r) X.2.2.2.2.2.1 X.2.2.2.1 0 0 (uA bs u0)) u0 16 [(0, .ref (bs + a0)), (1, .int x1), (2, .long x2), (4, .int x4), (5, .int x5)] [] := by
  intro x4 x5  e h g
  unfold fX11_widestCare_B16 at h
  refine v_iload C 4 dX11_widestCare_16 rfl ?_
  refine v_aload_n C 0 dX11_widestCare_18 rfl rfl ?_
  refine v_getR C fdX11_14 dX11_widestCare_19 h (fun b4 h => ?_)
  refine v_getI C fdX11_84 dX11_widestCare_22 h (fun y5 h => ?_)
  refine v_icmpge C 78 dX11_widestCare_25 (by decide) h (fun _ h => ?_) (fun _ h => ?_)
  · refine v_sub [(4, .int x4)] [3] rfl ?_
    exact hex x4 ((Option.some.inj h).symm ▸ g)
  · refine v_iload C 3 dX11_widestCare_28 rfl ?_
    refine v_iconst C (1 : Int32) dX11_widestCare_30 (by decide) ?_
    refine v_iload C 4 dX11_widestCare_31 rfl ?_
    refine v_ishl C dX11_widestCare_33 ?_
    refine v_iconst C (-1 : Int32) dX11_widestCare_34 (by decide) ?_
    refine v_ixor C dX11_widestCare_35 ?_
    refine v_iand C dX11_widestCare_36 ?_
    refine v_lti h (fun y6 h => ?_)
    refine v_istore C [(6, .int y6), (0, .ref (bs + a0)), (1, .int x1), (2, .long x2), (4, .int x4), (5, .int x5)] dX11_widestCare_37 (by decide) rfl ?_
    refine v_aload_n C 1 dX11_widestCare_39 rfl rfl ?_
    refine v_getR C fdX11_14 dX11_widestCare_40 h (fun b7 h => ?_)
    obtain ⟨y8, h1, h⟩ := ob_some h
    obtain ⟨hkd, h1⟩ := kd_some h1
    refine v_gol (rn_V C gcX11_76 (RX4, TX4, 4) rfl rfl (by decide) hkd (mX4_allHeaders h1) ⟨rfl, rfl⟩ rfl ⟨Nat.le_of_ble_eq_true rfl, Nat.le_of_ble_eq_true rfl⟩ (rest := []) rfl (Nat.le_of_ble_eq_true rfl) ⟨Nat.le_of_ble_eq_true rfl, Nat.le_of_ble_eq_true rfl⟩ dX11_widestCare_43) ?_
    refine v_iload C 0 dX11_widestCare_46 rfl ?_
    refine v_iload_n C 2 dX11_widestCare_48 rfl rfl ?_
    obtain ⟨y9, h1, h⟩ := ob_some h
    refine v_gol (rn_S C gcX11_208 (mX11_cubeHeaders h1) ⟨rfl, rfl⟩ rfl ⟨Nat.le_of_ble_eq_true rfl, Nat.le_of_ble_eq_true rfl⟩ (rest := [.long y8]) rfl (Nat.le_of_ble_eq_true rfl) ⟨Nat.le_of_ble_eq_true rfl, Nat.le_of_ble_eq_true rfl⟩ dX11_widestCare_49) ?_
    refine v_land C dX11_widestCare_52 ?_
    refine v_ltl h (fun y10 h => ?_)
    refine v_lstore C [(7, .long y10), (6, .int y6), (0, .ref (bs + a0)), (1, .int x1), (2, .long x2), (4, .int x4), (5, .int x5)] dX11_widestCare_53 (by decide) rfl ?_
    refine v_lload C 0 dX11_widestCare_55 rfl ?_
    refine v_lload_n C 4 dX11_widestCare_57 rfl rfl ?_
    refine v_ldc2 C (-1 : Int64) tw45 dX11_widestCare_58 ?_
    refine v_lxor C dX11_widestCare_61 ?_
    refine v_land C dX11_widestCare_62 ?_
    refine v_lconst C (0 : Int64) dX11_widestCare_63 (by decide) ?_
    refine v_lcmpne C 72 dX11_widestCare_64 dX11_widestCare_65 (by decide) h (fun _ h => ?_) (fun _ h => ?_)
    · refine v_iinc C 6 (x5 + (1 : Int32)) [(5, .int (x5 + (1 : Int32))), (7, .long y10), (6, .int y6), (0, .ref (bs + a0)), (1, .int x1), (2, .long x2), (4, .int x4)] dX11_widestCare_72 rfl rfl (by decide) rfl ?_
      refine v_goto C 16 dX11_widestCare_75 (by decide) ?_
      refine v_sub [(0, .ref (bs + a0)), (1, .int x1), (2, .long x2), (4, .int x4), (5, .int (x5 + (1 : Int32)))] [3, 4, 5, 6, 0] rfl ?_
      exact hk x4 (x5 + (1 : Int32)) _ h g
    · refine v_iload C 1 dX11_widestCare_68 rfl ?_
      refine v_istore C [(4, .int y6), (7, .long y10), (6, .int y6), (0, .ref (bs + a0)), (1, .int x1), (2, .long x2), (5, .int x5)] dX11_widestCare_70 (by decide) rfl ?_
      refine v_iinc C 6 (x5 + (1 : Int32)) [(5, .int (x5 + (1 : Int32))), (4, .int y6), (7, .long y10), (6, .int y6), (0, .ref (bs + a0)), (1, .int x1), (2, .long x2)] dX11_widestCare_72 rfl rfl (by decide) rfl ?_
      refine v_goto C 16 dX11_widestCare_75 (by decide) ?_
      refine v_sub [(0, .ref (bs + a0)), (1, .int x1), (2, .long x2), (4, .int y6), (5, .int (x5 + (1 : Int32)))] [4, 5, 6, 1, 0] rfl ?_
      exact hk y6 (x5 + (1 : Int32)) _ h g
set_option maxRecDepth 100000 in
set_option maxHeartbeats 4000000 in
theorem mX11_widestCare {l : Launch} {D : UD} {bs : Nat} {a0 : Nat} {x1 : Int32} {x2 : Int64} {u0 : UH} {r : Int32} (h : fX11_widestCare a0 x1 x2 u0 = some r) : Met l yX11_widestCare (wz yX11_widestCare cX11_widestCare 9 (some .int)) rmX11_widestCare (va_Pc [.ref (bs + a0), .int x1, .long x2] (uIn D bs u0)) (uQi D bs u0 u0 r) 0 0 (uA bs u0) := by
  refine uMet (by decide) (Nat.le_of_ble_eq_true rfl) ?_
  intro X tw hX C hin
  have C : uCx X D bs tw cX11_widestCare 9 RX11 (some .int) := C
  have hin : X.2.2.2.2.2.2.2.1.name = "widestCare" := hin
  refine v_L [(0, .ref (bs + a0)), (1, .int x1), (2, .long x2)] rfl ?_
  unfold fX11_widestCare at h
  refine v_iconst C (1 : Int32) dX11_widestCare_0 (by decide) ?_
  refine v_aload_n C 0 dX11_widestCare_1 rfl rfl ?_
  refine v_getR C fdX11_14 dX11_widestCare_2 h (fun b1 h => ?_)
  refine v_getI C fdX11_84 dX11_widestCare_5 h (fun y2 h => ?_)
  refine v_ishl C dX11_widestCare_8 ?_
  refine v_iconst C (1 : Int32) dX11_widestCare_9 (by decide) ?_
  refine v_isub C dX11_widestCare_10 ?_
  refine v_lti h (fun y3 h => ?_)
  refine v_istore C [(4, .int y3), (0, .ref (bs + a0)), (1, .int x1), (2, .long x2)] dX11_widestCare_11 (by decide) rfl ?_
  refine v_iconst C (0 : Int32) dX11_widestCare_13 (by decide) ?_
  refine v_istore C [(5, .int (0 : Int32)), (4, .int y3), (0, .ref (bs + a0)), (1, .int x1), (2, .long x2)] dX11_widestCare_14 (by decide) rfl ?_
  refine v_sub [(0, .ref (bs + a0)), (1, .int x1), (2, .long x2), (4, .int y3), (5, .int (0 : Int32))] [2, 3, 4, 1, 0] rfl ?_
  refine it2_O (V := fun x4 x5 => VV X D bs u0 rmX11_widestCare 9 0 0 (MQ X.2.2.2.2.2.2.1 (uQi D bs u0 u0 r) X.2.2.2.2.2.1 X.2.2.2.1 0 0 (uA bs u0)) u0 16 [(0, .ref (bs + a0)), (1, .int x1), (2, .long x2), (4, .int x4), (5, .int x5)] []) h (fun k_ hk_ => wX11_widestCare_B16 C hin hk_ ?_ )
  intro z12 h
  try dsimp only [Sum.elim_inl] at h
  refine v_iload C 0 dX11_widestCare_78 rfl ?_
  exact v_iret C dX11_widestCare_80 rfl (Option.some.inj h)
set_option maxRecDepth 100000 in
set_option maxHeartbeats 4000000 in
theorem wX11_cube_B68 {X : UX} {D : UD} {bs tw : Nat} {u0 : UH} {r : Int32} {v : UH} (C : uCx X D bs tw cX11_cube 12 RX11 (some .int)) (hin : X.2.2.2.2.2.2.2.1.name = "cube") {a0 : Nat} {x3 : Int32} {x4 : Int32} {x5 : Int64} {u : UH} {G : (Unit ⊕ (Int32 × UH)) → Prop} {k : Int64 → Int32 → Int32 → Option (Unit ⊕ (Int32 × UH))} (hk : ∀ (x7 : Int64) (x9 : Int32) (x10 : Int32)  e, k x7 x9 x10  = some e → G e → VV X D bs u0 rmX11_cube 12 0 0 (MQ X.2.2.2.2.2.2.1 (uQi D bs u0 v r) X.2.2.2.2.2.1 X.2.2.2.1 0 0 (uA bs u0)) u 68 [(0, .ref (bs + a0)), (3, .int x3), (4, .int x4), (5, .long x5), (7, .long x7), (9, .int x9), (10, .int x10)] []) (hex : G (Sum.inl ()) → VV X D bs u0 rmX11_cube 12 0 0 (MQ X.2.2.2.2.2.2.1 (uQi D bs u0 v r) X.2.2.2.2.2.1 X.2.2.2.1 0 0 (uA bs u0)) u 142 [] []) (hret : ∀ x, G (Sum.inr x) → x = (r, v)) : ∀ (x7 : Int64) (x9 : Int32) (x10 : Int32)  e, fX11_cube_B68 a0 x3 x4 x5 u k x7 x9 x10  = some e → G e → VV X D bs u0 rmX11_cube 12 0 0 (MQ X.2.2.2.2.2.2.1 (uQi D bs u0 v r) X.2.2.2.2.2.1 X.2.2.2.1 0 0 (uA bs u0)) u 68 [(0, .ref (bs + a0)), (3, .int x3), (4, .int x4), (5, .long x5), (7, .long x7), (9, .int x9), (10, .int x10)] [] := by
  intro x7 x9 x10  e h g
  unfold fX11_cube_B68 at h
  refine v_iload C 6 dX11_cube_68 rfl ?_
  refine v_bipush C (32 : Int32) dX11_cube_70 (by decide) ?_
  refine v_icmpge C 142 dX11_cube_72 (by decide) h (fun _ h => ?_) (fun _ h => ?_)
  · refine v_sub [] [] rfl ?_
    exact hex ((Option.some.inj h).symm ▸ g)
  · refine v_lload C 4 dX11_cube_75 rfl ?_
    refine v_iload C 6 dX11_cube_77 rfl ?_
    obtain ⟨y10, h1, h⟩ := ob_some h
    refine v_goi (rn_S C gcX11_242 (mX11_hasHeader h1) ⟨rfl, rfl⟩ rfl ⟨Nat.le_of_ble_eq_true rfl, Nat.le_of_ble_eq_true rfl⟩ (rest := []) rfl (Nat.le_of_ble_eq_true rfl) ⟨Nat.le_of_ble_eq_true rfl, Nat.le_of_ble_eq_true rfl⟩ dX11_cube_79) ?_
    refine v_ifeq C 136 dX11_cube_82 (by decide) h (fun _ h => ?_) (fun _ h => ?_)
    · refine v_iinc C 6 (x10 + (1 : Int32)) [(10, .int (x10 + (1 : Int32))), (0, .ref (bs + a0)), (3, .int x3), (4, .int x4), (5, .long x5), (7, .long x7), (9, .int x9)] dX11_cube_136 rfl rfl (by decide) rfl ?_
      refine v_goto C 68 dX11_cube_139 (by decide) ?_
      refine v_sub [(0, .ref (bs + a0)), (3, .int x3), (4, .int x4), (5, .long x5), (7, .long x7), (9, .int x9), (10, .int (x10 + (1 : Int32)))] [1, 2, 3, 4, 5, 6, 0] rfl ?_
      exact hk x7 x9 (x10 + (1 : Int32)) _ h g
    · refine v_aload_n C 0 dX11_cube_85 rfl rfl ?_
      refine v_iload C 6 dX11_cube_86 rfl ?_
      refine v_lload C 3 dX11_cube_88 rfl ?_
      obtain ⟨y11, h1, h⟩ := ob_some h
      obtain ⟨hkd, h1⟩ := kd_some h1
      refine v_goi (rn_V C gcX11_246 (RX11, TX11, 12) rfl rfl (by decide) hkd (mX11_widestCare h1) ⟨rfl, rfl⟩ rfl ⟨Nat.le_of_ble_eq_true rfl, Nat.le_of_ble_eq_true rfl⟩ (rest := []) rfl (Nat.le_of_ble_eq_true rfl) ⟨Nat.le_of_ble_eq_true rfl, Nat.le_of_ble_eq_true rfl⟩ dX11_cube_90) ?_
      refine v_istore C [(11, .int y11), (0, .ref (bs + a0)), (3, .int x3), (4, .int x4), (5, .long x5), (7, .long x7), (9, .int x9), (10, .int x10)] dX11_cube_93 (by decide) rfl ?_
      refine v_iload C 6 dX11_cube_95 rfl ?_
      refine v_iload_n C 2 dX11_cube_97 rfl rfl ?_
      refine v_icmpne C 117 dX11_cube_98 (by decide) h (fun _ h => ?_) (fun _ h => ?_)
      · refine v_iinc C 6 (x9 + (1 : Int32)) [(9, .int (x9 + (1 : Int32))), (11, .int y11), (0, .ref (bs + a0)), (3, .int x3), (4, .int x4), (5, .long x5), (7, .long x7), (10, .int x10)] dX11_cube_117 rfl rfl (by decide) rfl ?_
        refine v_lload C 6 dX11_cube_120 rfl ?_
        refine v_iload C 1 dX11_cube_122 rfl ?_
        refine v_iload C 7 dX11_cube_124 rfl ?_
        obtain ⟨y12, h1, h⟩ := ob_some h
        refine v_gol (rn_S C gcX11_208 (mX11_cubeHeaders h1) ⟨rfl, rfl⟩ rfl ⟨Nat.le_of_ble_eq_true rfl, Nat.le_of_ble_eq_true rfl⟩ (rest := [.long x7]) rfl (Nat.le_of_ble_eq_true rfl) ⟨Nat.le_of_ble_eq_true rfl, Nat.le_of_ble_eq_true rfl⟩ dX11_cube_126) ?_
        refine v_ldc2 C (-1 : Int64) tw45 dX11_cube_129 ?_
        refine v_lxor C dX11_cube_132 ?_
        refine v_land C dX11_cube_133 ?_
        refine v_ltl h (fun y13 h => ?_)
        refine v_lstore C [(7, .long y13), (9, .int (x9 + (1 : Int32))), (11, .int y11), (0, .ref (bs + a0)), (3, .int x3), (4, .int x4), (5, .long x5), (10, .int x10)] dX11_cube_134 (by decide) rfl ?_
        refine v_iinc C 7 (x10 + (1 : Int32)) [(10, .int (x10 + (1 : Int32))), (7, .long y13), (9, .int (x9 + (1 : Int32))), (11, .int y11), (0, .ref (bs + a0)), (3, .int x3), (4, .int x4), (5, .long x5)] dX11_cube_136 rfl rfl (by decide) rfl ?_
        refine v_goto C 68 dX11_cube_139 (by decide) ?_
        refine v_sub [(0, .ref (bs + a0)), (3, .int x3), (4, .int x4), (5, .long x5), (7, .long y13), (9, .int (x9 + (1 : Int32))), (10, .int (x10 + (1 : Int32)))] [4, 5, 6, 7, 1, 2, 0] rfl ?_
        exact hk y13 (x9 + (1 : Int32)) (x10 + (1 : Int32)) _ h g
      · refine v_iload C 3 dX11_cube_101 rfl ?_
        refine v_ifne C 111 dX11_cube_103 (by decide) h (fun _ h => ?_) (fun _ h => ?_)
        · refine v_iload C 7 dX11_cube_111 rfl ?_
          refine v_iload C 0 dX11_cube_113 rfl ?_
          refine v_iand C dX11_cube_115 ?_
          have h := hret (x10 &&& y11, u) ((Option.some.inj h).symm ▸ g)
          exact v_iret C dX11_cube_116 (Prod.mk.inj h).2 (Prod.mk.inj h).1
        · refine v_iload C 0 dX11_cube_106 rfl ?_
          refine v_goto C 116 dX11_cube_108 (by decide) ?_
          have h := hret (y11, u) ((Option.some.inj h).symm ▸ g)
          exact v_iret C dX11_cube_116 (Prod.mk.inj h).2 (Prod.mk.inj h).1
set_option maxRecDepth 100000 in
set_option maxHeartbeats 4000000 in
theorem mX11_cube {l : Launch} {D : UD} {bs : Nat} {a0 : Nat} {x1 : Int32} {x2 : Int32} {x3 : Int32} {x4 : Int32} {u0 : UH} {r : Int32} {v : UH} (h : fX11_cube a0 x1 x2 x3 x4 u0 = some (r, v)) : Met l yX11_cube (wz yX11_cube cX11_cube 12 (some .int)) rmX11_cube (va_Pc [.ref (bs + a0), .int x1, .int x2, .int x3, .int x4] (uIn D bs u0)) (uQi D bs u0 v r) 0 0 (uA bs u0) := by
  refine uMet (by decide) (Nat.le_of_ble_eq_true rfl) ?_
  intro X tw hX C hin
  have C : uCx X D bs tw cX11_cube 12 RX11 (some .int) := C
  have hin : X.2.2.2.2.2.2.2.1.name = "cube" := hin
  refine v_L [(0, .ref (bs + a0)), (1, .int x1), (2, .int x2), (3, .int x3), (4, .int x4)] rfl ?_
  unfold fX11_cube at h
  refine v_iload_n C 1 dX11_cube_0 rfl rfl ?_
  refine v_iload_n C 2 dX11_cube_1 rfl rfl ?_
  obtain ⟨y1, h1, h⟩ := ob_some h
  refine v_goi (rn_S C gcX11_101 (mX11_isPlace h1) ⟨rfl, rfl⟩ rfl ⟨Nat.le_of_ble_eq_true rfl, Nat.le_of_ble_eq_true rfl⟩ (rest := []) rfl (Nat.le_of_ble_eq_true rfl) ⟨Nat.le_of_ble_eq_true rfl, Nat.le_of_ble_eq_true rfl⟩ dX11_cube_2) ?_
  refine v_ifne C 10 dX11_cube_5 (by decide) h (fun _ h => ?_) (fun _ h => ?_)
  · refine v_iload_n C 3 dX11_cube_10 rfl rfl ?_
    refine v_iflt C 25 dX11_cube_11 (by decide) h (fun _ h => ?_) (fun _ h => ?_)
    · refine v_bipush C (-3 : Int32) dX11_cube_25 (by decide) ?_
      exact v_iret C dX11_cube_27 (Prod.mk.inj (Option.some.inj h)).2 (Prod.mk.inj (Option.some.inj h)).1
    · refine v_iload C 4 dX11_cube_14 rfl ?_
      refine v_iflt C 25 dX11_cube_16 (by decide) h (fun _ h => ?_) (fun _ h => ?_)
      · refine v_bipush C (-3 : Int32) dX11_cube_25 (by decide) ?_
        exact v_iret C dX11_cube_27 (Prod.mk.inj (Option.some.inj h)).2 (Prod.mk.inj (Option.some.inj h)).1
      · refine v_iload C 4 dX11_cube_19 rfl ?_
        refine v_iconst C (1 : Int32) dX11_cube_21 (by decide) ?_
        refine v_icmple C 28 dX11_cube_22 (by decide) h (fun _ h => ?_) (fun _ h => ?_)
        · refine v_aload_n C 0 dX11_cube_28 rfl rfl ?_
          refine v_getR C fdX11_30 dX11_cube_29 h (fun b2 h => ?_)
          refine v_aload_n C 0 dX11_cube_32 rfl rfl ?_
          refine v_getI C fdX11_98 dX11_cube_33 h (fun y3 h => ?_)
          refine v_aload_n C 0 dX11_cube_36 rfl rfl ?_
          refine v_getJ C fdX11_80 dX11_cube_37 h (fun y4 h => ?_)
          obtain ⟨u5, h1, h⟩ := ob_some h
          obtain ⟨hkd, h1⟩ := kd_some h1
          refine v_gov (rn_V C gcX11_218 (RX2, TX2, 4) rfl rfl (by decide) hkd (mX2_spreadFrom h1) ⟨rfl, rfl⟩ rfl ⟨Nat.le_of_ble_eq_true rfl, Nat.le_of_ble_eq_true rfl⟩ (rest := []) rfl (Nat.le_of_ble_eq_true rfl) ⟨Nat.le_of_ble_eq_true rfl, Nat.le_of_ble_eq_true rfl⟩ dX11_cube_40) ?_
          refine v_aload_n C 0 dX11_cube_43 rfl rfl ?_
          refine v_getR C fdX11_30 dX11_cube_44 h (fun b6 h => ?_)
          refine v_getR C fdX11_222 dX11_cube_47 h (fun b7 h => ?_)
          refine v_iload_n C 1 dX11_cube_50 rfl rfl ?_
          refine v_iload_n C 2 dX11_cube_51 rfl rfl ?_
          obtain ⟨y8, h1, h⟩ := ob_some h
          refine v_goi (rn_S C gcX11_105 (mX11_placeOf h1) ⟨rfl, rfl⟩ rfl ⟨Nat.le_of_ble_eq_true rfl, Nat.le_of_ble_eq_true rfl⟩ (rest := [.ref (bs + b7)]) rfl (Nat.le_of_ble_eq_true rfl) ⟨Nat.le_of_ble_eq_true rfl, Nat.le_of_ble_eq_true rfl⟩ dX11_cube_52) ?_
          refine v_ldJ C dX11_cube_55 h (fun y9 h => ?_)
          refine v_lstore C [(5, .long y9), (0, .ref (bs + a0)), (1, .int x1), (2, .int x2), (3, .int x3), (4, .int x4)] dX11_cube_56 (by decide) rfl ?_
          refine v_lload C 0 dX11_cube_58 rfl ?_
          refine v_lstore C [(7, .long y9), (5, .long y9), (0, .ref (bs + a0)), (1, .int x1), (2, .int x2), (3, .int x3), (4, .int x4)] dX11_cube_60 (by decide) rfl ?_
          refine v_iconst C (0 : Int32) dX11_cube_62 (by decide) ?_
          refine v_istore C [(9, .int (0 : Int32)), (7, .long y9), (5, .long y9), (0, .ref (bs + a0)), (1, .int x1), (2, .int x2), (3, .int x3), (4, .int x4)] dX11_cube_63 (by decide) rfl ?_
          refine v_iconst C (0 : Int32) dX11_cube_65 (by decide) ?_
          refine v_istore C [(10, .int (0 : Int32)), (9, .int (0 : Int32)), (7, .long y9), (5, .long y9), (0, .ref (bs + a0)), (1, .int x1), (2, .int x2), (3, .int x3), (4, .int x4)] dX11_cube_66 (by decide) rfl ?_
          refine v_sub [(0, .ref (bs + a0)), (3, .int x3), (4, .int x4), (5, .long y9), (7, .long y9), (9, .int (0 : Int32)), (10, .int (0 : Int32))] [4, 7, 8, 3, 2, 1, 0] rfl ?_
          refine it3_S (V := fun x7 x9 x10 => VV X D bs u0 rmX11_cube 12 0 0 (MQ X.2.2.2.2.2.2.1 (uQi D bs u0 v r) X.2.2.2.2.2.1 X.2.2.2.1 0 0 (uA bs u0)) u5 68 [(0, .ref (bs + a0)), (3, .int x3), (4, .int x4), (5, .long y9), (7, .long x7), (9, .int x9), (10, .int x10)] []) h (fun k_ hk_ => wX11_cube_B68 C hin hk_ ?_ (fun x hx => Option.some.inj (show some x = some _ from hx)))
          intro h
          try dsimp only [Sum.elim_inl] at h
          refine v_bipush C (-6 : Int32) dX11_cube_142 (by decide) ?_
          exact v_iret C dX11_cube_144 (Prod.mk.inj (Option.some.inj h)).2 (Prod.mk.inj (Option.some.inj h)).1
        · refine v_bipush C (-3 : Int32) dX11_cube_25 (by decide) ?_
          exact v_iret C dX11_cube_27 (Prod.mk.inj (Option.some.inj h)).2 (Prod.mk.inj (Option.some.inj h)).1
  · refine v_iconst C (-1 : Int32) dX11_cube_8 (by decide) ?_
    exact v_iret C dX11_cube_9 (Prod.mk.inj (Option.some.inj h)).2 (Prod.mk.inj (Option.some.inj h)).1
set_option maxRecDepth 100000 in
set_option maxHeartbeats 4000000 in
theorem wX2_leastOrigin_B7 {X : UX} {D : UD} {bs tw : Nat} {u0 : UH} {r : Int32} {v : UH} (C : uCx X D bs tw cX2_leastOrigin 7 RX2 (some .int)) (hin : X.2.2.2.2.2.2.2.1.name = "leastOrigin") {a0 : Nat} {x1 : Int32} {x2 : Int64} {x4 : Int32} {x5 : Int32}  {G : (UH ⊕ (Int32 × UH)) → Prop} {k : Int32 → UH → Option (UH ⊕ (Int32 × UH))} (hk : ∀ (x6 : Int32) (u' : UH) e, k x6 u' = some e → G e → VV X D bs u0 rmX2_leastOrigin 7 0 0 (MQ X.2.2.2.2.2.2.1 (uQi D bs u0 v r) X.2.2.2.2.2.1 X.2.2.2.1 0 0 (uA bs u0)) u' 7 [(0, .ref (bs + a0)), (1, .int x1), (2, .long x2), (4, .int x4), (5, .int x5), (6, .int x6)] []) (hex : ∀  (u' : UH), G (Sum.inl u') → VV X D bs u0 rmX2_leastOrigin 7 0 0 (MQ X.2.2.2.2.2.2.1 (uQi D bs u0 v r) X.2.2.2.2.2.1 X.2.2.2.1 0 0 (uA bs u0)) u' 60 [] []) (hret : ∀ x, G (Sum.inr x) → x = (r, v)) : ∀ (x6 : Int32) (u : UH) e, fX2_leastOrigin_B7 a0 x1 x2 x4 x5  k x6 u = some e → G e → VV X D bs u0 rmX2_leastOrigin 7 0 0 (MQ X.2.2.2.2.2.2.1 (uQi D bs u0 v r) X.2.2.2.2.2.1 X.2.2.2.1 0 0 (uA bs u0)) u 7 [(0, .ref (bs + a0)), (1, .int x1), (2, .long x2), (4, .int x4), (5, .int x5), (6, .int x6)] [] := by
  intro x6 u e h g
  unfold fX2_leastOrigin_B7 at h
  refine v_iload C 5 dX2_leastOrigin_7 rfl ?_
  refine v_bipush C (32 : Int32) dX2_leastOrigin_9 (by decide) ?_
  refine v_icmpge C 60 dX2_leastOrigin_11 (by decide) h (fun _ h => ?_) (fun _ h => ?_)
  · refine v_sub [] [] rfl ?_
    exact hex u ((Option.some.inj h).symm ▸ g)
  · refine v_lload_n C 2 dX2_leastOrigin_14 rfl rfl ?_
    refine v_iload C 5 dX2_leastOrigin_15 rfl ?_
    obtain ⟨y2, h1, h⟩ := ob_some h
    refine v_goi (rn_N C gcX2_35 (mX11_hasHeader h1) ⟨rfl, rfl⟩ rfl ⟨Nat.le_of_ble_eq_true rfl, Nat.le_of_ble_eq_true rfl⟩ (rest := []) rfl (Nat.le_of_ble_eq_true rfl) ⟨Nat.le_of_ble_eq_true rfl, Nat.le_of_ble_eq_true rfl⟩ dX2_leastOrigin_17) ?_
    refine v_ifeq C 54 dX2_leastOrigin_20 (by decide) h (fun _ h => ?_) (fun _ h => ?_)
    · refine v_iinc C 5 (x6 + (1 : Int32)) [(6, .int (x6 + (1 : Int32))), (0, .ref (bs + a0)), (1, .int x1), (2, .long x2), (4, .int x4), (5, .int x5)] dX2_leastOrigin_54 rfl rfl (by decide) rfl ?_
      refine v_goto C 7 dX2_leastOrigin_57 (by decide) ?_
      refine v_sub [(0, .ref (bs + a0)), (1, .int x1), (2, .long x2), (4, .int x4), (5, .int x5), (6, .int (x6 + (1 : Int32)))] [1, 2, 3, 4, 5, 0] rfl ?_
      exact hk (x6 + (1 : Int32)) u _ h g
    · refine v_aload_n C 0 dX2_leastOrigin_23 rfl rfl ?_
      refine v_iload_n C 1 dX2_leastOrigin_24 rfl rfl ?_
      refine v_lconst C (1 : Int64) dX2_leastOrigin_25 (by decide) ?_
      refine v_iload C 5 dX2_leastOrigin_26 rfl ?_
      refine v_lshl C dX2_leastOrigin_28 ?_
      obtain ⟨u3, h1, h⟩ := ob_some h
      obtain ⟨hkd, h1⟩ := kd_some h1
      refine v_gov (rn_V C gcX2_28 (RX2, TX2, 4) rfl rfl (by decide) hkd (mX2_enter h1) ⟨rfl, rfl⟩ rfl ⟨Nat.le_of_ble_eq_true rfl, Nat.le_of_ble_eq_true rfl⟩ (rest := []) rfl (Nat.le_of_ble_eq_true rfl) ⟨Nat.le_of_ble_eq_true rfl, Nat.le_of_ble_eq_true rfl⟩ dX2_leastOrigin_29) ?_
      refine v_aload_n C 0 dX2_leastOrigin_32 rfl rfl ?_
      obtain ⟨u4, h1, h⟩ := ob_some h
      obtain ⟨hkd, h1⟩ := kd_some h1
      refine v_gov (rn_V C gcX2_32 (RX2, TX2, 4) rfl rfl (by decide) hkd (mX2_spread h1) ⟨rfl, rfl⟩ rfl ⟨Nat.le_of_ble_eq_true rfl, Nat.le_of_ble_eq_true rfl⟩ (rest := []) rfl (Nat.le_of_ble_eq_true rfl) ⟨Nat.le_of_ble_eq_true rfl, Nat.le_of_ble_eq_true rfl⟩ dX2_leastOrigin_33) ?_
      refine v_aload_n C 0 dX2_leastOrigin_36 rfl rfl ?_
      refine v_getR C fdX2_9 dX2_leastOrigin_37 h (fun b5 h => ?_)
      refine v_iload C 3 dX2_leastOrigin_40 rfl ?_
      refine v_ldJ C dX2_leastOrigin_42 h (fun y6 h => ?_)
      refine v_iload C 4 dX2_leastOrigin_43 rfl ?_
      obtain ⟨y7, h1, h⟩ := ob_some h
      refine v_goi (rn_N C gcX2_35 (mX11_hasHeader h1) ⟨rfl, rfl⟩ rfl ⟨Nat.le_of_ble_eq_true rfl, Nat.le_of_ble_eq_true rfl⟩ (rest := []) rfl (Nat.le_of_ble_eq_true rfl) ⟨Nat.le_of_ble_eq_true rfl, Nat.le_of_ble_eq_true rfl⟩ dX2_leastOrigin_45) ?_
      refine v_ifeq C 54 dX2_leastOrigin_48 (by decide) h (fun _ h => ?_) (fun _ h => ?_)
      · refine v_iinc C 5 (x6 + (1 : Int32)) [(6, .int (x6 + (1 : Int32))), (0, .ref (bs + a0)), (1, .int x1), (2, .long x2), (4, .int x4), (5, .int x5)] dX2_leastOrigin_54 rfl rfl (by decide) rfl ?_
        refine v_goto C 7 dX2_leastOrigin_57 (by decide) ?_
        refine v_sub [(0, .ref (bs + a0)), (1, .int x1), (2, .long x2), (4, .int x4), (5, .int x5), (6, .int (x6 + (1 : Int32)))] [1, 2, 3, 4, 5, 0] rfl ?_
        exact hk (x6 + (1 : Int32)) u4 _ h g
      · refine v_iload C 5 dX2_leastOrigin_51 rfl ?_
        have h := hret (x6, u4) ((Option.some.inj h).symm ▸ g)
        exact v_iret C dX2_leastOrigin_53 (Prod.mk.inj h).2 (Prod.mk.inj h).1
set_option maxRecDepth 100000 in
set_option maxHeartbeats 4000000 in
theorem mX2_leastOrigin {l : Launch} {D : UD} {bs : Nat} {a0 : Nat} {x1 : Int32} {x2 : Int64} {x4 : Int32} {x5 : Int32} {u0 : UH} {r : Int32} {v : UH} (h : fX2_leastOrigin a0 x1 x2 x4 x5 u0 = some (r, v)) : Met l yX2_leastOrigin (wz yX2_leastOrigin cX2_leastOrigin 7 (some .int)) rmX2_leastOrigin (va_Pc [.ref (bs + a0), .int x1, .long x2, .int x4, .int x5] (uIn D bs u0)) (uQi D bs u0 v r) 0 0 (uA bs u0) := by
  refine uMet (by decide) (Nat.le_of_ble_eq_true rfl) ?_
  intro X tw hX C hin
  have C : uCx X D bs tw cX2_leastOrigin 7 RX2 (some .int) := C
  have hin : X.2.2.2.2.2.2.2.1.name = "leastOrigin" := hin
  refine v_L [(0, .ref (bs + a0)), (1, .int x1), (2, .long x2), (4, .int x4), (5, .int x5)] rfl ?_
  unfold fX2_leastOrigin at h
  refine v_aload_n C 0 dX2_leastOrigin_0 rfl rfl ?_
  obtain ⟨u1, h1, h⟩ := ob_some h
  obtain ⟨hkd, h1⟩ := kd_some h1
  refine v_gov (rn_V C gcX2_25 (RX2, TX2, 4) rfl rfl (by decide) hkd (mX2_forget h1) ⟨rfl, rfl⟩ rfl ⟨Nat.le_of_ble_eq_true rfl, Nat.le_of_ble_eq_true rfl⟩ (rest := []) rfl (Nat.le_of_ble_eq_true rfl) ⟨Nat.le_of_ble_eq_true rfl, Nat.le_of_ble_eq_true rfl⟩ dX2_leastOrigin_1) ?_
  refine v_iconst C (0 : Int32) dX2_leastOrigin_4 (by decide) ?_
  refine v_istore C [(6, .int (0 : Int32)), (0, .ref (bs + a0)), (1, .int x1), (2, .long x2), (4, .int x4), (5, .int x5)] dX2_leastOrigin_5 (by decide) rfl ?_
  refine v_sub [(0, .ref (bs + a0)), (1, .int x1), (2, .long x2), (4, .int x4), (5, .int x5), (6, .int (0 : Int32))] [1, 2, 3, 4, 5, 0] rfl ?_
  refine it2_S (V := fun x6 u' => VV X D bs u0 rmX2_leastOrigin 7 0 0 (MQ X.2.2.2.2.2.2.1 (uQi D bs u0 v r) X.2.2.2.2.2.1 X.2.2.2.1 0 0 (uA bs u0)) u' 7 [(0, .ref (bs + a0)), (1, .int x1), (2, .long x2), (4, .int x4), (5, .int x5), (6, .int x6)] []) h (fun k_ hk_ => wX2_leastOrigin_B7 C hin hk_ ?_ (fun x hx => Option.some.inj (show some x = some _ from hx)))
  intro z9 h
  try dsimp only [Sum.elim_inl] at h
  refine v_bipush C (-6 : Int32) dX2_leastOrigin_60 (by decide) ?_
  exact v_iret C dX2_leastOrigin_62 (Prod.mk.inj (Option.some.inj h)).2 (Prod.mk.inj (Option.some.inj h)).1
set_option maxRecDepth 100000 in
set_option maxHeartbeats 4000000 in
theorem mX11_origin {l : Launch} {D : UD} {bs : Nat} {a0 : Nat} {x1 : Int32} {x2 : Int32} {x3 : Int32} {u0 : UH} {r : Int32} {v : UH} (h : fX11_origin a0 x1 x2 x3 u0 = some (r, v)) : Met l yX11_origin (wz yX11_origin cX11_origin 4 (some .int)) rmX11_origin (va_Pc [.ref (bs + a0), .int x1, .int x2, .int x3] (uIn D bs u0)) (uQi D bs u0 v r) 0 0 (uA bs u0) := by
  refine uMet (by decide) (Nat.le_of_ble_eq_true rfl) ?_
  intro X tw hX C hin
  have C : uCx X D bs tw cX11_origin 4 RX11 (some .int) := C
  have hin : X.2.2.2.2.2.2.2.1.name = "origin" := hin
  refine v_L [(0, .ref (bs + a0)), (1, .int x1), (2, .int x2), (3, .int x3)] rfl ?_
  unfold fX11_origin at h
  refine v_iload_n C 1 dX11_origin_0 rfl rfl ?_
  refine v_iload_n C 2 dX11_origin_1 rfl rfl ?_
  obtain ⟨y1, h1, h⟩ := ob_some h
  refine v_goi (rn_S C gcX11_101 (mX11_isPlace h1) ⟨rfl, rfl⟩ rfl ⟨Nat.le_of_ble_eq_true rfl, Nat.le_of_ble_eq_true rfl⟩ (rest := []) rfl (Nat.le_of_ble_eq_true rfl) ⟨Nat.le_of_ble_eq_true rfl, Nat.le_of_ble_eq_true rfl⟩ dX11_origin_2) ?_
  refine v_ifne C 10 dX11_origin_5 (by decide) h (fun _ h => ?_) (fun _ h => ?_)
  · refine v_aload_n C 0 dX11_origin_10 rfl rfl ?_
    refine v_getR C fdX11_14 dX11_origin_11 h (fun b2 h => ?_)
    refine v_iload_n C 3 dX11_origin_14 rfl rfl ?_
    obtain ⟨y3, h1, h⟩ := ob_some h
    obtain ⟨hkd, h1⟩ := kd_some h1
    refine v_goi (rn_V C gcX11_252 (RX4, TX4, 4) rfl rfl (by decide) hkd (mX4_isHeader h1) ⟨rfl, rfl⟩ rfl ⟨Nat.le_of_ble_eq_true rfl, Nat.le_of_ble_eq_true rfl⟩ (rest := []) rfl (Nat.le_of_ble_eq_true rfl) ⟨Nat.le_of_ble_eq_true rfl, Nat.le_of_ble_eq_true rfl⟩ dX11_origin_15) ?_
    refine v_ifne C 24 dX11_origin_18 (by decide) h (fun _ h => ?_) (fun _ h => ?_)
    · refine v_aload_n C 0 dX11_origin_24 rfl rfl ?_
      refine v_getR C fdX11_30 dX11_origin_25 h (fun b4 h => ?_)
      refine v_aload_n C 0 dX11_origin_28 rfl rfl ?_
      refine v_getI C fdX11_98 dX11_origin_29 h (fun y5 h => ?_)
      refine v_aload_n C 0 dX11_origin_32 rfl rfl ?_
      refine v_getJ C fdX11_80 dX11_origin_33 h (fun y6 h => ?_)
      refine v_iload_n C 1 dX11_origin_36 rfl rfl ?_
      refine v_iload_n C 2 dX11_origin_37 rfl rfl ?_
      obtain ⟨y7, h1, h⟩ := ob_some h
      refine v_goi (rn_S C gcX11_105 (mX11_placeOf h1) ⟨rfl, rfl⟩ rfl ⟨Nat.le_of_ble_eq_true rfl, Nat.le_of_ble_eq_true rfl⟩ (rest := [.long y6, .int y5, .ref (bs + b4)]) rfl (Nat.le_of_ble_eq_true rfl) ⟨Nat.le_of_ble_eq_true rfl, Nat.le_of_ble_eq_true rfl⟩ dX11_origin_38) ?_
      refine v_iload_n C 3 dX11_origin_41 rfl rfl ?_
      obtain ⟨y8, u9, h1, h⟩ := ob2_some h
      obtain ⟨hkd, h1⟩ := kd_some h1
      refine v_goi (rn_V C gcX11_255 (RX2, TX2, 4) rfl rfl (by decide) hkd (mX2_leastOrigin h1) ⟨rfl, rfl⟩ rfl ⟨Nat.le_of_ble_eq_true rfl, Nat.le_of_ble_eq_true rfl⟩ (rest := []) rfl (Nat.le_of_ble_eq_true rfl) ⟨Nat.le_of_ble_eq_true rfl, Nat.le_of_ble_eq_true rfl⟩ dX11_origin_42) ?_
      exact v_iret C dX11_origin_45 (Prod.mk.inj (Option.some.inj h)).2 (Prod.mk.inj (Option.some.inj h)).1
    · refine v_bipush C (-3 : Int32) dX11_origin_21 (by decide) ?_
      exact v_iret C dX11_origin_23 (Prod.mk.inj (Option.some.inj h)).2 (Prod.mk.inj (Option.some.inj h)).1
  · refine v_iconst C (-1 : Int32) dX11_origin_8 (by decide) ?_
    exact v_iret C dX11_origin_9 (Prod.mk.inj (Option.some.inj h)).2 (Prod.mk.inj (Option.some.inj h)).1
set_option maxRecDepth 100000 in
set_option maxHeartbeats 4000000 in
theorem mX11_isInjected {l : Launch} {D : UD} {bs : Nat} {a0 : Nat} {x1 : Int32} {u0 : UH} {r : Int32} (h : fX11_isInjected a0 x1 u0 = some r) : Met l yX11_isInjected (wz yX11_isInjected cX11_isInjected 2 (some .boolean)) rmX11_isInjected (va_Pc [.ref (bs + a0), .int x1] (uIn D bs u0)) (uQi D bs u0 u0 r) 0 0 (uA bs u0) := by
  refine uMet (by decide) (Nat.le_of_ble_eq_true rfl) ?_
  intro X tw hX C hin
  have C : uCx X D bs tw cX11_isInjected 2 RX11 (some .boolean) := C
  have hin : X.2.2.2.2.2.2.2.1.name = "isInjected" := hin
  refine v_L [(0, .ref (bs + a0)), (1, .int x1)] rfl ?_
  unfold fX11_isInjected at h
  refine v_aload_n C 0 dX11_isInjected_0 rfl rfl ?_
  refine v_getR C fdX11_14 dX11_isInjected_1 h (fun b1 h => ?_)
  refine v_iload_n C 1 dX11_isInjected_4 rfl rfl ?_
  obtain ⟨y2, h1, h⟩ := ob_some h
  obtain ⟨hkd, h1⟩ := kd_some h1
  refine v_goi (rn_V C gcX11_252 (RX4, TX4, 4) rfl rfl (by decide) hkd (mX4_isHeader h1) ⟨rfl, rfl⟩ rfl ⟨Nat.le_of_ble_eq_true rfl, Nat.le_of_ble_eq_true rfl⟩ (rest := []) rfl (Nat.le_of_ble_eq_true rfl) ⟨Nat.le_of_ble_eq_true rfl, Nat.le_of_ble_eq_true rfl⟩ dX11_isInjected_5) ?_
  refine v_ifeq C 26 dX11_isInjected_8 (by decide) h (fun _ h => ?_) (fun _ h => ?_)
  · refine v_iconst C (0 : Int32) dX11_isInjected_26 (by decide) ?_
    exact v_zret C dX11_isInjected_27 rfl (Option.some.inj h) rfl
  · refine v_aload_n C 0 dX11_isInjected_11 rfl rfl ?_
    refine v_getJ C fdX11_80 dX11_isInjected_12 h (fun y3 h => ?_)
    refine v_iload_n C 1 dX11_isInjected_15 rfl rfl ?_
    obtain ⟨y4, h1, h⟩ := ob_some h
    refine v_goi (rn_S C gcX11_242 (mX11_hasHeader h1) ⟨rfl, rfl⟩ rfl ⟨Nat.le_of_ble_eq_true rfl, Nat.le_of_ble_eq_true rfl⟩ (rest := []) rfl (Nat.le_of_ble_eq_true rfl) ⟨Nat.le_of_ble_eq_true rfl, Nat.le_of_ble_eq_true rfl⟩ dX11_isInjected_16) ?_
    refine v_ifeq C 26 dX11_isInjected_19 (by decide) h (fun _ h => ?_) (fun _ h => ?_)
    · refine v_iconst C (0 : Int32) dX11_isInjected_26 (by decide) ?_
      exact v_zret C dX11_isInjected_27 rfl (Option.some.inj h) rfl
    · refine v_iconst C (1 : Int32) dX11_isInjected_22 (by decide) ?_
      refine v_goto C 27 dX11_isInjected_23 (by decide) ?_
      exact v_zret C dX11_isInjected_27 rfl (Option.some.inj h) rfl
set_option maxRecDepth 100000 in
set_option maxHeartbeats 4000000 in
theorem wX2_leastLinks_B15 {X : UX} {D : UD} {bs tw : Nat} {u0 : UH} {r : Int32} {v : UH} (C : uCx X D bs tw cX2_leastLinks 5 RX2 (some .int)) (hin : X.2.2.2.2.2.2.2.1.name = "leastLinks") {a0 : Nat} {x3 : Int32}  {G : (UH ⊕ (Int32 × UH)) → Prop} {k : Int32 → UH → Option (UH ⊕ (Int32 × UH))} (hk : ∀ (x4 : Int32) (u' : UH) e, k x4 u' = some e → G e → VV X D bs u0 rmX2_leastLinks 5 0 0 (MQ X.2.2.2.2.2.2.1 (uQi D bs u0 v r) X.2.2.2.2.2.1 X.2.2.2.1 0 0 (uA bs u0)) u' 15 [(0, .ref (bs + a0)), (3, .int x3), (4, .int x4)] []) (hex : ∀  (u' : UH), G (Sum.inl u') → VV X D bs u0 rmX2_leastLinks 5 0 0 (MQ X.2.2.2.2.2.2.1 (uQi D bs u0 v r) X.2.2.2.2.2.1 X.2.2.2.1 0 0 (uA bs u0)) u' 53 [] []) (hret : ∀ x, G (Sum.inr x) → x = (r, v)) : ∀ (x4 : Int32) (u : UH) e, fX2_leastLinks_B15 a0 x3  k x4 u = some e → G e → VV X D bs u0 rmX2_leastLinks 5 0 0 (MQ X.2.2.2.2.2.2.1 (uQi D bs u0 v r) X.2.2.2.2.2.1 X.2.2.2.1 0 0 (uA bs u0)) u 15 [(0, .ref (bs + a0)), (3, .int x3), (4, .int x4)] [] := by
  intro x4 u e h g
  unfold fX2_leastLinks_B15 at h
  refine v_iload C 2 dX2_leastLinks_15 rfl ?_
  refine v_sipush C (768 : Int32) dX2_leastLinks_17 (by decide) ?_
  refine v_icmpgt C 53 dX2_leastLinks_20 (by decide) h (fun _ h => ?_) (fun _ h => ?_)
  · refine v_sub [] [] rfl ?_
    exact hex u ((Option.some.inj h).symm ▸ g)
  · refine v_aload_n C 0 dX2_leastLinks_23 rfl rfl ?_
    refine v_getR C fdX2_9 dX2_leastLinks_24 h (fun b3 h => ?_)
    refine v_iload_n C 1 dX2_leastLinks_27 rfl rfl ?_
    refine v_ldJ C dX2_leastLinks_28 h (fun y4 h => ?_)
    refine v_lconst C (0 : Int64) dX2_leastLinks_29 (by decide) ?_
    refine v_lcmpeq C 37 dX2_leastLinks_30 dX2_leastLinks_31 (by decide) h (fun _ h => ?_) (fun _ h => ?_)
    · refine v_aload_n C 0 dX2_leastLinks_37 rfl rfl ?_
      obtain ⟨y5, u6, h1, h⟩ := ob2_some h
      obtain ⟨hkd, h1⟩ := kd_some h1
      refine v_goi (rn_V C gcX2_39 (RX2, TX2, 4) rfl rfl (by decide) hkd (mX2_goOneLink h1) ⟨rfl, rfl⟩ rfl ⟨Nat.le_of_ble_eq_true rfl, Nat.le_of_ble_eq_true rfl⟩ (rest := []) rfl (Nat.le_of_ble_eq_true rfl) ⟨Nat.le_of_ble_eq_true rfl, Nat.le_of_ble_eq_true rfl⟩ dX2_leastLinks_38) ?_
      refine v_ifne C 47 dX2_leastLinks_41 (by decide) h (fun _ h => ?_) (fun _ h => ?_)
      · refine v_iinc C 2 (x4 + (1 : Int32)) [(4, .int (x4 + (1 : Int32))), (0, .ref (bs + a0)), (3, .int x3)] dX2_leastLinks_47 rfl rfl (by decide) rfl ?_
        refine v_goto C 15 dX2_leastLinks_50 (by decide) ?_
        refine v_sub [(0, .ref (bs + a0)), (3, .int x3), (4, .int (x4 + (1 : Int32)))] [1, 2, 0] rfl ?_
        exact hk (x4 + (1 : Int32)) u6 _ h g
      · refine v_bipush C (-6 : Int32) dX2_leastLinks_44 (by decide) ?_
        have h := hret ((-6 : Int32), u6) ((Option.some.inj h).symm ▸ g)
        exact v_iret C dX2_leastLinks_46 (Prod.mk.inj h).2 (Prod.mk.inj h).1
    · refine v_iload C 2 dX2_leastLinks_34 rfl ?_
      have h := hret (x4, u) ((Option.some.inj h).symm ▸ g)
      exact v_iret C dX2_leastLinks_36 (Prod.mk.inj h).2 (Prod.mk.inj h).1
set_option maxRecDepth 100000 in
set_option maxHeartbeats 4000000 in
theorem mX2_leastLinks {l : Launch} {D : UD} {bs : Nat} {a0 : Nat} {x1 : Int32} {x2 : Int32} {x3 : Int32} {u0 : UH} {r : Int32} {v : UH} (h : fX2_leastLinks a0 x1 x2 x3 u0 = some (r, v)) : Met l yX2_leastLinks (wz yX2_leastLinks cX2_leastLinks 5 (some .int)) rmX2_leastLinks (va_Pc [.ref (bs + a0), .int x1, .int x2, .int x3] (uIn D bs u0)) (uQi D bs u0 v r) 0 0 (uA bs u0) := by
  refine uMet (by decide) (Nat.le_of_ble_eq_true rfl) ?_
  intro X tw hX C hin
  have C : uCx X D bs tw cX2_leastLinks 5 RX2 (some .int) := C
  have hin : X.2.2.2.2.2.2.2.1.name = "leastLinks" := hin
  refine v_L [(0, .ref (bs + a0)), (1, .int x1), (2, .int x2), (3, .int x3)] rfl ?_
  unfold fX2_leastLinks at h
  refine v_aload_n C 0 dX2_leastLinks_0 rfl rfl ?_
  obtain ⟨u1, h1, h⟩ := ob_some h
  obtain ⟨hkd, h1⟩ := kd_some h1
  refine v_gov (rn_V C gcX2_25 (RX2, TX2, 4) rfl rfl (by decide) hkd (mX2_forget h1) ⟨rfl, rfl⟩ rfl ⟨Nat.le_of_ble_eq_true rfl, Nat.le_of_ble_eq_true rfl⟩ (rest := []) rfl (Nat.le_of_ble_eq_true rfl) ⟨Nat.le_of_ble_eq_true rfl, Nat.le_of_ble_eq_true rfl⟩ dX2_leastLinks_1) ?_
  refine v_aload_n C 0 dX2_leastLinks_4 rfl rfl ?_
  refine v_iload_n C 1 dX2_leastLinks_5 rfl rfl ?_
  refine v_lconst C (1 : Int64) dX2_leastLinks_6 (by decide) ?_
  refine v_iload_n C 2 dX2_leastLinks_7 rfl rfl ?_
  refine v_lshl C dX2_leastLinks_8 ?_
  obtain ⟨u2, h1, h⟩ := ob_some h
  obtain ⟨hkd, h1⟩ := kd_some h1
  refine v_gov (rn_V C gcX2_28 (RX2, TX2, 4) rfl rfl (by decide) hkd (mX2_enter h1) ⟨rfl, rfl⟩ rfl ⟨Nat.le_of_ble_eq_true rfl, Nat.le_of_ble_eq_true rfl⟩ (rest := []) rfl (Nat.le_of_ble_eq_true rfl) ⟨Nat.le_of_ble_eq_true rfl, Nat.le_of_ble_eq_true rfl⟩ dX2_leastLinks_9) ?_
  refine v_iconst C (0 : Int32) dX2_leastLinks_12 (by decide) ?_
  refine v_istore C [(4, .int (0 : Int32)), (0, .ref (bs + a0)), (1, .int x1), (2, .int x2), (3, .int x3)] dX2_leastLinks_13 (by decide) rfl ?_
  refine v_sub [(0, .ref (bs + a0)), (3, .int x3), (4, .int (0 : Int32))] [1, 4, 0] rfl ?_
  refine it2_S (V := fun x4 u' => VV X D bs u0 rmX2_leastLinks 5 0 0 (MQ X.2.2.2.2.2.2.1 (uQi D bs u0 v r) X.2.2.2.2.2.1 X.2.2.2.1 0 0 (uA bs u0)) u' 15 [(0, .ref (bs + a0)), (3, .int x3), (4, .int x4)] []) h (fun k_ hk_ => wX2_leastLinks_B15 C hin hk_ ?_ (fun x hx => Option.some.inj (show some x = some _ from hx)))
  intro z8 h
  try dsimp only [Sum.elim_inl] at h
  refine v_bipush C (-6 : Int32) dX2_leastLinks_53 (by decide) ?_
  exact v_iret C dX2_leastLinks_55 (Prod.mk.inj (Option.some.inj h)).2 (Prod.mk.inj (Option.some.inj h)).1
set_option maxRecDepth 100000 in
set_option maxHeartbeats 4000000 in
theorem mX11_distance {l : Launch} {D : UD} {bs : Nat} {a0 : Nat} {x1 : Int32} {x2 : Int32} {x3 : Int32} {u0 : UH} {r : Int32} {v : UH} (h : fX11_distance a0 x1 x2 x3 u0 = some (r, v)) : Met l yX11_distance (wz yX11_distance cX11_distance 4 (some .int)) rmX11_distance (va_Pc [.ref (bs + a0), .int x1, .int x2, .int x3] (uIn D bs u0)) (uQi D bs u0 v r) 0 0 (uA bs u0) := by
  refine uMet (by decide) (Nat.le_of_ble_eq_true rfl) ?_
  intro X tw hX C hin
  have C : uCx X D bs tw cX11_distance 4 RX11 (some .int) := C
  have hin : X.2.2.2.2.2.2.2.1.name = "distance" := hin
  refine v_L [(0, .ref (bs + a0)), (1, .int x1), (2, .int x2), (3, .int x3)] rfl ?_
  unfold fX11_distance at h
  refine v_aload_n C 0 dX11_distance_0 rfl rfl ?_
  refine v_iload_n C 1 dX11_distance_1 rfl rfl ?_
  obtain ⟨y1, h1, h⟩ := ob_some h
  obtain ⟨hkd, h1⟩ := kd_some h1
  refine v_goi (rn_V C gcX11_259 (RX11, TX11, 12) rfl rfl (by decide) hkd (mX11_isInjected h1) ⟨rfl, rfl⟩ rfl ⟨Nat.le_of_ble_eq_true rfl, Nat.le_of_ble_eq_true rfl⟩ (rest := []) rfl (Nat.le_of_ble_eq_true rfl) ⟨Nat.le_of_ble_eq_true rfl, Nat.le_of_ble_eq_true rfl⟩ dX11_distance_2) ?_
  refine v_ifne C 11 dX11_distance_5 (by decide) h (fun _ h => ?_) (fun _ h => ?_)
  · refine v_iload_n C 2 dX11_distance_11 rfl rfl ?_
    refine v_iload_n C 3 dX11_distance_12 rfl rfl ?_
    obtain ⟨y2, h1, h⟩ := ob_some h
    refine v_goi (rn_S C gcX11_101 (mX11_isPlace h1) ⟨rfl, rfl⟩ rfl ⟨Nat.le_of_ble_eq_true rfl, Nat.le_of_ble_eq_true rfl⟩ (rest := []) rfl (Nat.le_of_ble_eq_true rfl) ⟨Nat.le_of_ble_eq_true rfl, Nat.le_of_ble_eq_true rfl⟩ dX11_distance_13) ?_
    refine v_ifne C 21 dX11_distance_16 (by decide) h (fun _ h => ?_) (fun _ h => ?_)
    · refine v_aload_n C 0 dX11_distance_21 rfl rfl ?_
      refine v_getR C fdX11_30 dX11_distance_22 h (fun b3 h => ?_)
      refine v_aload_n C 0 dX11_distance_25 rfl rfl ?_
      refine v_getI C fdX11_98 dX11_distance_26 h (fun y4 h => ?_)
      refine v_iload_n C 1 dX11_distance_29 rfl rfl ?_
      refine v_iload_n C 2 dX11_distance_30 rfl rfl ?_
      refine v_iload_n C 3 dX11_distance_31 rfl rfl ?_
      obtain ⟨y5, h1, h⟩ := ob_some h
      refine v_goi (rn_S C gcX11_105 (mX11_placeOf h1) ⟨rfl, rfl⟩ rfl ⟨Nat.le_of_ble_eq_true rfl, Nat.le_of_ble_eq_true rfl⟩ (rest := [.int x1, .int y4, .ref (bs + b3)]) rfl (Nat.le_of_ble_eq_true rfl) ⟨Nat.le_of_ble_eq_true rfl, Nat.le_of_ble_eq_true rfl⟩ dX11_distance_32) ?_
      obtain ⟨y6, u7, h1, h⟩ := ob2_some h
      obtain ⟨hkd, h1⟩ := kd_some h1
      refine v_goi (rn_V C gcX11_262 (RX2, TX2, 4) rfl rfl (by decide) hkd (mX2_leastLinks h1) ⟨rfl, rfl⟩ rfl ⟨Nat.le_of_ble_eq_true rfl, Nat.le_of_ble_eq_true rfl⟩ (rest := []) rfl (Nat.le_of_ble_eq_true rfl) ⟨Nat.le_of_ble_eq_true rfl, Nat.le_of_ble_eq_true rfl⟩ dX11_distance_35) ?_
      exact v_iret C dX11_distance_38 (Prod.mk.inj (Option.some.inj h)).2 (Prod.mk.inj (Option.some.inj h)).1
    · refine v_iconst C (-1 : Int32) dX11_distance_19 (by decide) ?_
      exact v_iret C dX11_distance_20 (Prod.mk.inj (Option.some.inj h)).2 (Prod.mk.inj (Option.some.inj h)).1
  · refine v_bipush C (-3 : Int32) dX11_distance_8 (by decide) ?_
    exact v_iret C dX11_distance_10 (Prod.mk.inj (Option.some.inj h)).2 (Prod.mk.inj (Option.some.inj h)).1
set_option maxRecDepth 100000 in
set_option maxHeartbeats 4000000 in
theorem wX7_handler_B8 {X : UX} {D : UD} {bs tw : Nat} {u0 : UH} {r : Int32} (C : uCx X D bs tw cX7_handler 7 RX7 (some .int)) (hin : X.2.2.2.2.2.2.2.1.name = "handler") {a0 : Nat} {x1 : Int32} {x3 : Int32} {x4 : Int64}  {G : (Unit ⊕ Int32) → Prop} {k : Int32 → Option (Unit ⊕ Int32)} (hk : ∀ (x6 : Int32)  e, k x6  = some e → G e → VV X D bs u0 rmX7_handler 7 0 0 (MQ X.2.2.2.2.2.2.1 (uQi D bs u0 u0 r) X.2.2.2.2.2.1 X.2.2.2.1 0 0 (uA bs u0)) u0 8 [(0, .ref (bs + a0)), (1, .int x1), (3, .int x3), (4, .long x4), (6, .int x6)] []) (hex : G (Sum.inl ()) → VV X D bs u0 rmX7_handler 7 0 0 (MQ X.2.2.2.2.2.2.1 (uQi D bs u0 u0 r) X.2.2.2.2.2.1 X.2.2.2.1 0 0 (uA bs u0)) u0 53 [] []) (hret : ∀ x, G (Sum.inr x) → x = r) : ∀ (x6 : Int32)  e, fX7_handler_B8 a0 x1 x3 x4 u0 k x6  = some e → G e → VV X D bs u0 rmX7_handler 7 0 0 (MQ X.2.2.2.2.2.2.1 (uQi D bs u0 u0 r) X.2.2.2.2.2.1 X.2.2.2.1 0 0 (uA bs u0)) u0 8 [(0, .ref (bs + a0)), (1, .int x1), (3, .int x3), (4, .long x4), (6, .int x6)] [] := by
  intro x6  e h g
  unfold fX7_handler_B8 at h
  refine v_iload C 4 dX7_handler_8 rfl ?_
  refine v_aload_n C 0 dX7_handler_10 rfl rfl ?_
  refine v_getI C fdX7_17 dX7_handler_11 h (fun y2 h => ?_)
  refine v_icmpge C 53 dX7_handler_14 (by decide) h (fun _ h => ?_) (fun _ h => ?_)
  · refine v_sub [] [] rfl ?_
    exact hex ((Option.some.inj h).symm ▸ g)
  · refine v_iload_n C 2 dX7_handler_17 rfl rfl ?_
    refine v_iload C 4 dX7_handler_18 rfl ?_
    refine v_ishr C dX7_handler_20 ?_
    refine v_iconst C (1 : Int32) dX7_handler_21 (by decide) ?_
    refine v_iand C dX7_handler_22 ?_
    refine v_ifne C 47 dX7_handler_23 (by decide) h (fun _ h => ?_) (fun _ h => ?_)
    · refine v_iinc C 4 (x6 + (1 : Int32)) [(6, .int (x6 + (1 : Int32))), (0, .ref (bs + a0)), (1, .int x1), (3, .int x3), (4, .long x4)] dX7_handler_47 rfl rfl (by decide) rfl ?_
      refine v_goto C 8 dX7_handler_50 (by decide) ?_
      refine v_sub [(0, .ref (bs + a0)), (1, .int x1), (3, .int x3), (4, .long x4), (6, .int (x6 + (1 : Int32)))] [1, 2, 3, 4, 0] rfl ?_
      exact hk (x6 + (1 : Int32)) _ h g
    · refine v_aload_n C 0 dX7_handler_26 rfl rfl ?_
      refine v_getR C fdX7_11 dX7_handler_27 h (fun b3 h => ?_)
      refine v_iload C 4 dX7_handler_30 rfl ?_
      refine v_ldR C 25 _ rfl (by decide) dX7_handler_32 h (fun b4 h => ?_)
      refine v_iload_n C 1 dX7_handler_33 rfl rfl ?_
      refine v_lload C 3 dX7_handler_34 rfl ?_
      obtain ⟨y5, h1, h⟩ := ob_some h
      obtain ⟨hkd, h1⟩ := kd_some h1
      refine v_gol (rn_V C gcX7_27 (RX6, TX6, 8) rfl rfl (by decide) hkd (mX6_taken h1) ⟨rfl, rfl⟩ rfl ⟨Nat.le_of_ble_eq_true rfl, Nat.le_of_ble_eq_true rfl⟩ (rest := []) rfl (Nat.le_of_ble_eq_true rfl) ⟨Nat.le_of_ble_eq_true rfl, Nat.le_of_ble_eq_true rfl⟩ dX7_handler_36) ?_
      refine v_lconst C (0 : Int64) dX7_handler_39 (by decide) ?_
      refine v_lcmpeq C 47 dX7_handler_40 dX7_handler_41 (by decide) h (fun _ h => ?_) (fun _ h => ?_)
      · refine v_iinc C 4 (x6 + (1 : Int32)) [(6, .int (x6 + (1 : Int32))), (0, .ref (bs + a0)), (1, .int x1), (3, .int x3), (4, .long x4)] dX7_handler_47 rfl rfl (by decide) rfl ?_
        refine v_goto C 8 dX7_handler_50 (by decide) ?_
        refine v_sub [(0, .ref (bs + a0)), (1, .int x1), (3, .int x3), (4, .long x4), (6, .int (x6 + (1 : Int32)))] [1, 2, 3, 4, 0] rfl ?_
        exact hk (x6 + (1 : Int32)) _ h g
      · refine v_iload C 4 dX7_handler_44 rfl ?_
        have h := hret x6 ((Option.some.inj h).symm ▸ g)
        exact v_iret C dX7_handler_46 rfl h
set_option maxRecDepth 100000 in
set_option maxHeartbeats 4000000 in
theorem mX7_handler {l : Launch} {D : UD} {bs : Nat} {a0 : Nat} {x1 : Int32} {x2 : Int32} {x3 : Int32} {u0 : UH} {r : Int32} (h : fX7_handler a0 x1 x2 x3 u0 = some r) : Met l yX7_handler (wz yX7_handler cX7_handler 7 (some .int)) rmX7_handler (va_Pc [.ref (bs + a0), .int x1, .int x2, .int x3] (uIn D bs u0)) (uQi D bs u0 u0 r) 0 0 (uA bs u0) := by
  refine uMet (by decide) (Nat.le_of_ble_eq_true rfl) ?_
  intro X tw hX C hin
  have C : uCx X D bs tw cX7_handler 7 RX7 (some .int) := C
  have hin : X.2.2.2.2.2.2.2.1.name = "handler" := hin
  refine v_L [(0, .ref (bs + a0)), (1, .int x1), (2, .int x2), (3, .int x3)] rfl ?_
  unfold fX7_handler at h
  refine v_lconst C (1 : Int64) dX7_handler_0 (by decide) ?_
  refine v_iload_n C 2 dX7_handler_1 rfl rfl ?_
  refine v_lshl C dX7_handler_2 ?_
  refine v_ltl h (fun y1 h => ?_)
  refine v_lstore C [(4, .long y1), (0, .ref (bs + a0)), (1, .int x1), (2, .int x2), (3, .int x3)] dX7_handler_3 (by decide) rfl ?_
  refine v_iconst C (0 : Int32) dX7_handler_5 (by decide) ?_
  refine v_istore C [(6, .int (0 : Int32)), (4, .long y1), (0, .ref (bs + a0)), (1, .int x1), (2, .int x2), (3, .int x3)] dX7_handler_6 (by decide) rfl ?_
  refine v_sub [(0, .ref (bs + a0)), (1, .int x1), (3, .int x3), (4, .long y1), (6, .int (0 : Int32))] [2, 3, 5, 1, 0] rfl ?_
  refine it1_S (V := fun x6 => VV X D bs u0 rmX7_handler 7 0 0 (MQ X.2.2.2.2.2.2.1 (uQi D bs u0 u0 r) X.2.2.2.2.2.1 X.2.2.2.1 0 0 (uA bs u0)) u0 8 [(0, .ref (bs + a0)), (1, .int x1), (3, .int x3), (4, .long y1), (6, .int x6)] []) h (fun k_ hk_ => wX7_handler_B8 C hin hk_ ?_ (fun x hx => Option.some.inj (show some x = some _ from hx)))
  intro h
  try dsimp only [Sum.elim_inl] at h
  refine v_iconst C (-1 : Int32) dX7_handler_53 (by decide) ?_
  exact v_iret C dX7_handler_54 rfl (Option.some.inj h)
set_option maxRecDepth 100000 in
set_option maxHeartbeats 4000000 in
theorem wX6_lowestOutput_B2 {X : UX} {D : UD} {bs tw : Nat} {u0 : UH} {r : Int32} (C : uCx X D bs tw cX6_lowestOutput 2 RX6 (some .int)) (hin : X.2.2.2.2.2.2.2.1.name = "lowestOutput") {a0 : Nat}  {G : (Unit ⊕ Int32) → Prop} {k : Int32 → Option (Unit ⊕ Int32)} (hk : ∀ (x1 : Int32)  e, k x1  = some e → G e → VV X D bs u0 rmX6_lowestOutput 2 0 0 (MQ X.2.2.2.2.2.2.1 (uQi D bs u0 u0 r) X.2.2.2.2.2.1 X.2.2.2.1 0 0 (uA bs u0)) u0 2 [(0, .ref (bs + a0)), (1, .int x1)] []) (hex : G (Sum.inl ()) → VV X D bs u0 rmX6_lowestOutput 2 0 0 (MQ X.2.2.2.2.2.2.1 (uQi D bs u0 u0 r) X.2.2.2.2.2.1 X.2.2.2.1 0 0 (uA bs u0)) u0 26 [] []) (hret : ∀ x, G (Sum.inr x) → x = r) : ∀ (x1 : Int32)  e, fX6_lowestOutput_B2 a0 u0 k x1  = some e → G e → VV X D bs u0 rmX6_lowestOutput 2 0 0 (MQ X.2.2.2.2.2.2.1 (uQi D bs u0 u0 r) X.2.2.2.2.2.1 X.2.2.2.1 0 0 (uA bs u0)) u0 2 [(0, .ref (bs + a0)), (1, .int x1)] [] := by
  intro x1  e h g
  unfold fX6_lowestOutput_B2 at h
  refine v_iload_n C 1 dX6_lowestOutput_2 rfl rfl ?_
  refine v_iconst C (4 : Int32) dX6_lowestOutput_3 (by decide) ?_
  refine v_icmpge C 26 dX6_lowestOutput_4 (by decide) h (fun _ h => ?_) (fun _ h => ?_)
  · refine v_sub [] [] rfl ?_
    exact hex ((Option.some.inj h).symm ▸ g)
  · refine v_aload_n C 0 dX6_lowestOutput_7 rfl rfl ?_
    refine v_getI C fdX6_21 dX6_lowestOutput_8 h (fun y1 h => ?_)
    refine v_iload_n C 1 dX6_lowestOutput_11 rfl rfl ?_
    obtain ⟨y2, h1, h⟩ := ob_some h
    refine v_goi (rn_N C gcX6_51 (mX11_hasPort h1) ⟨rfl, rfl⟩ rfl ⟨Nat.le_of_ble_eq_true rfl, Nat.le_of_ble_eq_true rfl⟩ (rest := []) rfl (Nat.le_of_ble_eq_true rfl) ⟨Nat.le_of_ble_eq_true rfl, Nat.le_of_ble_eq_true rfl⟩ dX6_lowestOutput_12) ?_
    refine v_ifeq C 20 dX6_lowestOutput_15 (by decide) h (fun _ h => ?_) (fun _ h => ?_)
    · refine v_iinc C 1 (x1 + (1 : Int32)) [(1, .int (x1 + (1 : Int32))), (0, .ref (bs + a0))] dX6_lowestOutput_20 rfl rfl (by decide) rfl ?_
      refine v_goto C 2 dX6_lowestOutput_23 (by decide) ?_
      refine v_sub [(0, .ref (bs + a0)), (1, .int (x1 + (1 : Int32)))] [1, 0] rfl ?_
      exact hk (x1 + (1 : Int32)) _ h g
    · refine v_iload_n C 1 dX6_lowestOutput_18 rfl rfl ?_
      have h := hret x1 ((Option.some.inj h).symm ▸ g)
      exact v_iret C dX6_lowestOutput_19 rfl h
set_option maxRecDepth 100000 in
set_option maxHeartbeats 4000000 in
theorem mX6_lowestOutput {l : Launch} {D : UD} {bs : Nat} {a0 : Nat} {u0 : UH} {r : Int32} (h : fX6_lowestOutput a0 u0 = some r) : Met l yX6_lowestOutput (wz yX6_lowestOutput cX6_lowestOutput 2 (some .int)) rmX6_lowestOutput (va_Pc [.ref (bs + a0)] (uIn D bs u0)) (uQi D bs u0 u0 r) 0 0 (uA bs u0) := by
  refine uMet (by decide) (Nat.le_of_ble_eq_true rfl) ?_
  intro X tw hX C hin
  have C : uCx X D bs tw cX6_lowestOutput 2 RX6 (some .int) := C
  have hin : X.2.2.2.2.2.2.2.1.name = "lowestOutput" := hin
  refine v_L [(0, .ref (bs + a0))] rfl ?_
  unfold fX6_lowestOutput at h
  refine v_iconst C (0 : Int32) dX6_lowestOutput_0 (by decide) ?_
  refine v_istore_n C [(1, .int (0 : Int32)), (0, .ref (bs + a0))] dX6_lowestOutput_1 rfl (by decide) rfl ?_
  refine v_sub [(0, .ref (bs + a0)), (1, .int (0 : Int32))] [1, 0] rfl ?_
  refine it1_S (V := fun x1 => VV X D bs u0 rmX6_lowestOutput 2 0 0 (MQ X.2.2.2.2.2.2.1 (uQi D bs u0 u0 r) X.2.2.2.2.2.1 X.2.2.2.1 0 0 (uA bs u0)) u0 2 [(0, .ref (bs + a0)), (1, .int x1)] []) h (fun k_ hk_ => wX6_lowestOutput_B2 C hin hk_ ?_ (fun x hx => Option.some.inj (show some x = some _ from hx)))
  intro h
  try dsimp only [Sum.elim_inl] at h
  refine v_iconst C (-1 : Int32) dX6_lowestOutput_26 (by decide) ?_
  exact v_iret C dX6_lowestOutput_27 rfl (Option.some.inj h)
set_option maxRecDepth 100000 in
set_option maxHeartbeats 4000000 in
theorem mX6_rewritten {l : Launch} {D : UD} {bs : Nat} {a0 : Nat} {x1 : Int32} {u0 : UH} {r : Int32} (h : fX6_rewritten a0 x1 u0 = some r) : Met l yX6_rewritten (wz yX6_rewritten cX6_rewritten 2 (some .int)) rmX6_rewritten (va_Pc [.ref (bs + a0), .int x1] (uIn D bs u0)) (uQi D bs u0 u0 r) 0 0 (uA bs u0) := by
  refine uMet (by decide) (Nat.le_of_ble_eq_true rfl) ?_
  intro X tw hX C hin
  have C : uCx X D bs tw cX6_rewritten 2 RX6 (some .int) := C
  have hin : X.2.2.2.2.2.2.2.1.name = "rewritten" := hin
  refine v_L [(0, .ref (bs + a0)), (1, .int x1)] rfl ?_
  unfold fX6_rewritten at h
  refine v_iload_n C 1 dX6_rewritten_0 rfl rfl ?_
  refine v_aload_n C 0 dX6_rewritten_1 rfl rfl ?_
  refine v_getI C fdX6_24 dX6_rewritten_2 h (fun y1 h => ?_)
  refine v_iconst C (-1 : Int32) dX6_rewritten_5 (by decide) ?_
  refine v_ixor C dX6_rewritten_6 ?_
  refine v_iand C dX6_rewritten_7 ?_
  refine v_aload_n C 0 dX6_rewritten_8 rfl rfl ?_
  refine v_getI C fdX6_27 dX6_rewritten_9 h (fun y2 h => ?_)
  refine v_ior C dX6_rewritten_12 ?_
  exact v_iret C dX6_rewritten_13 rfl (Option.some.inj h)
set_option maxRecDepth 100000 in
set_option maxHeartbeats 4000000 in
theorem mX10_goOnce {l : Launch} {D : UD} {bs : Nat} {a0 : Nat} {u0 : UH} {v : UH} (h : fX10_goOnce a0 u0 = some v) : Met l yX10_goOnce (wz yX10_goOnce cX10_goOnce 7 none) rmX10_goOnce (va_Pc [.ref (bs + a0)] (uIn D bs u0)) (uQv D bs u0 v) 0 0 (uA bs u0) := by
  refine uMet (by decide) (Nat.le_of_ble_eq_true rfl) ?_
  intro X tw hX C hin
  have C : uCx X D bs tw cX10_goOnce 7 RX10 none := C
  have hin : X.2.2.2.2.2.2.2.1.name = "goOnce" := hin
  refine v_L [(0, .ref (bs + a0))] rfl ?_
  unfold fX10_goOnce at h
  refine v_aload_n C 0 dX10_goOnce_0 rfl rfl ?_
  refine v_getI C fdX10_25 dX10_goOnce_1 h (fun y1 h => ?_)
  refine v_iconst C (4 : Int32) dX10_goOnce_4 (by decide) ?_
  refine v_idiv C dX10_goOnce_5 (by decide) ?_
  refine v_lti h (fun y2 h => ?_)
  refine v_istore_n C [(1, .int y2), (0, .ref (bs + a0))] dX10_goOnce_6 rfl (by decide) rfl ?_
  refine v_aload_n C 1 dX10_goOnce_7 rfl rfl ?_
  refine v_getR C fdX10_15 dX10_goOnce_8 h (fun b3 h => ?_)
  refine v_getR C fdX10_38 dX10_goOnce_11 h (fun b4 h => ?_)
  refine v_iload_n C 0 dX10_goOnce_14 rfl rfl ?_
  refine v_ldR C 26 _ rfl (by decide) dX10_goOnce_15 h (fun b5 h => ?_)
  refine v_astore_n C [(2, .ref (bs + b5)), (1, .int y2), (0, .ref (bs + a0))] dX10_goOnce_16 rfl (by decide) rfl ?_
  refine v_aload_n C 0 dX10_goOnce_17 rfl rfl ?_
  refine v_aload_n C 2 dX10_goOnce_18 rfl rfl ?_
  refine v_getI C fdX10_25 dX10_goOnce_19 h (fun y6 h => ?_)
  refine v_iconst C (4 : Int32) dX10_goOnce_22 (by decide) ?_
  refine v_irem C dX10_goOnce_23 (by decide) ?_
  refine v_aload_n C 2 dX10_goOnce_24 rfl rfl ?_
  refine v_getI C fdX10_29 dX10_goOnce_25 h (fun y7 h => ?_)
  refine v_iconst C (0 : Int32) dX10_goOnce_28 (by decide) ?_
  obtain ⟨y8, h1, h⟩ := ob_some h
  obtain ⟨hkd, h1⟩ := kd_some h1
  refine v_goi (rn_V C gcX10_44 (RX7, TX7, 2) rfl rfl (by decide) hkd (mX7_handler h1) ⟨rfl, rfl⟩ rfl ⟨Nat.le_of_ble_eq_true rfl, Nat.le_of_ble_eq_true rfl⟩ (rest := []) rfl (Nat.le_of_ble_eq_true rfl) ⟨Nat.le_of_ble_eq_true rfl, Nat.le_of_ble_eq_true rfl⟩ dX10_goOnce_29) ?_
  refine v_istore_n C [(3, .int y8), (2, .ref (bs + b5)), (1, .int y2), (0, .ref (bs + a0))] dX10_goOnce_32 rfl (by decide) rfl ?_
  refine v_iload_n C 0 dX10_goOnce_33 rfl rfl ?_
  refine v_iconst C (-1 : Int32) dX10_goOnce_34 (by decide) ?_
  refine v_icmpne C 44 dX10_goOnce_35 (by decide) h (fun _ h => ?_) (fun _ h => ?_)
  · refine v_aload_n C 1 dX10_goOnce_44 rfl rfl ?_
    refine v_getR C fdX10_50 dX10_goOnce_45 h (fun b9 h => ?_)
    refine v_iload_n C 0 dX10_goOnce_48 rfl rfl ?_
    refine v_ldR C 25 _ rfl (by decide) dX10_goOnce_49 h (fun b10 h => ?_)
    refine v_astore C [(4, .ref (bs + b10)), (3, .int y8), (2, .ref (bs + b5)), (1, .int y2), (0, .ref (bs + a0))] dX10_goOnce_50 (by decide) rfl ?_
    refine v_aload C 0 dX10_goOnce_52 rfl ?_
    obtain ⟨y11, h1, h⟩ := ob_some h
    obtain ⟨hkd, h1⟩ := kd_some h1
    refine v_goi (rn_V C gcX10_54 (RX6, TX6, 8) rfl rfl (by decide) hkd (mX6_lowestOutput h1) ⟨rfl, rfl⟩ rfl ⟨Nat.le_of_ble_eq_true rfl, Nat.le_of_ble_eq_true rfl⟩ (rest := []) rfl (Nat.le_of_ble_eq_true rfl) ⟨Nat.le_of_ble_eq_true rfl, Nat.le_of_ble_eq_true rfl⟩ dX10_goOnce_54) ?_
    refine v_istore C [(5, .int y11), (4, .ref (bs + b10)), (3, .int y8), (2, .ref (bs + b5)), (1, .int y2), (0, .ref (bs + a0))] dX10_goOnce_57 (by decide) rfl ?_
    refine v_iload C 0 dX10_goOnce_59 rfl ?_
    refine v_iconst C (-1 : Int32) dX10_goOnce_61 (by decide) ?_
    refine v_icmpne C 71 dX10_goOnce_62 (by decide) h (fun _ h => ?_) (fun _ h => ?_)
    · refine v_aload_n C 5 dX10_goOnce_71 rfl rfl ?_
      refine v_getR C fdX10_15 dX10_goOnce_72 h (fun b12 h => ?_)
      refine v_getR C fdX10_60 dX10_goOnce_75 h (fun b13 h => ?_)
      refine v_iload_n C 4 dX10_goOnce_78 rfl rfl ?_
      refine v_iload C 0 dX10_goOnce_79 rfl ?_
      obtain ⟨y14, h1, h⟩ := ob_some h
      refine v_goi (rn_N C gcX10_64 (mX11_placeOf h1) ⟨rfl, rfl⟩ rfl ⟨Nat.le_of_ble_eq_true rfl, Nat.le_of_ble_eq_true rfl⟩ (rest := [.ref (bs + b13)]) rfl (Nat.le_of_ble_eq_true rfl) ⟨Nat.le_of_ble_eq_true rfl, Nat.le_of_ble_eq_true rfl⟩ dX10_goOnce_81) ?_
      refine v_ldI C dX10_goOnce_84 h (fun y15 h => ?_)
      refine v_istore C [(6, .int y15), (5, .int y11), (4, .ref (bs + b10)), (3, .int y8), (2, .ref (bs + b5)), (1, .int y2), (0, .ref (bs + a0))] dX10_goOnce_85 (by decide) rfl ?_
      refine v_iload C 0 dX10_goOnce_87 rfl ?_
      refine v_iconst C (-1 : Int32) dX10_goOnce_89 (by decide) ?_
      refine v_icmpne C 101 dX10_goOnce_90 (by decide) h (fun _ h => ?_) (fun _ h => ?_)
      · refine v_aload_n C 6 dX10_goOnce_101 rfl rfl ?_
        refine v_getR C fdX10_9 dX10_goOnce_102 h (fun b16 h => ?_)
        refine v_iload C 0 dX10_goOnce_105 rfl ?_
        refine v_ldJ C dX10_goOnce_107 h (fun y17 h => ?_)
        refine v_aload C 2 dX10_goOnce_108 rfl ?_
        refine v_aload_n C 6 dX10_goOnce_110 rfl rfl ?_
        refine v_getI C fdX10_29 dX10_goOnce_111 h (fun y18 h => ?_)
        obtain ⟨y19, h1, h⟩ := ob_some h
        obtain ⟨hkd, h1⟩ := kd_some h1
        refine v_goi (rn_V C gcX10_68 (RX6, TX6, 8) rfl rfl (by decide) hkd (mX6_rewritten h1) ⟨rfl, rfl⟩ rfl ⟨Nat.le_of_ble_eq_true rfl, Nat.le_of_ble_eq_true rfl⟩ (rest := [.long y17]) rfl (Nat.le_of_ble_eq_true rfl) ⟨Nat.le_of_ble_eq_true rfl, Nat.le_of_ble_eq_true rfl⟩ dX10_goOnce_114) ?_
        obtain ⟨y20, h1, h⟩ := ob_some h
        refine v_goi (rn_N C gcX10_72 (mX11_hasHeader h1) ⟨rfl, rfl⟩ rfl ⟨Nat.le_of_ble_eq_true rfl, Nat.le_of_ble_eq_true rfl⟩ (rest := []) rfl (Nat.le_of_ble_eq_true rfl) ⟨Nat.le_of_ble_eq_true rfl, Nat.le_of_ble_eq_true rfl⟩ dX10_goOnce_117) ?_
        refine v_ifeq C 131 dX10_goOnce_120 (by decide) h (fun _ h => ?_) (fun _ h => ?_)
        · refine v_aload_n C 6 dX10_goOnce_131 rfl rfl ?_
          refine v_aload C 2 dX10_goOnce_132 rfl ?_
          refine v_aload_n C 6 dX10_goOnce_134 rfl rfl ?_
          refine v_getI C fdX10_29 dX10_goOnce_135 h (fun y21 h => ?_)
          obtain ⟨y22, h1, h⟩ := ob_some h
          obtain ⟨hkd, h1⟩ := kd_some h1
          refine v_goi (rn_V C gcX10_68 (RX6, TX6, 8) rfl rfl (by decide) hkd (mX6_rewritten h1) ⟨rfl, rfl⟩ rfl ⟨Nat.le_of_ble_eq_true rfl, Nat.le_of_ble_eq_true rfl⟩ (rest := [.ref (bs + a0)]) rfl (Nat.le_of_ble_eq_true rfl) ⟨Nat.le_of_ble_eq_true rfl, Nat.le_of_ble_eq_true rfl⟩ dX10_goOnce_138) ?_
          refine v_putI C fdX10_29 (fun h => by cases h) dX10_goOnce_141 h (fun u23 h => ?_)
          refine v_aload_n C 6 dX10_goOnce_144 rfl rfl ?_
          refine v_iload C 0 dX10_goOnce_145 rfl ?_
          refine v_putI C fdX10_25 (fun h => by cases h) dX10_goOnce_147 h (fun u24 h => ?_)
          refine v_aload_n C 6 dX10_goOnce_150 rfl rfl ?_
          refine v_getR C fdX10_9 dX10_goOnce_151 h (fun b25 h => ?_)
          refine v_aload_n C 6 dX10_goOnce_154 rfl rfl ?_
          refine v_getI C fdX10_25 dX10_goOnce_155 h (fun y26 h => ?_)
          refine v_dup2 C dX10_goOnce_158 rfl rfl ?_
          refine v_ldJ C dX10_goOnce_159 h (fun y27 h => ?_)
          refine v_lconst C (1 : Int64) dX10_goOnce_160 (by decide) ?_
          refine v_aload_n C 6 dX10_goOnce_161 rfl rfl ?_
          refine v_getI C fdX10_29 dX10_goOnce_162 h (fun y28 h => ?_)
          refine v_lshl C dX10_goOnce_165 ?_
          refine v_lor C dX10_goOnce_166 ?_
          refine v_stJ C dX10_goOnce_167 h (fun u29 h => ?_)
          exact v_vret C dX10_goOnce_168 (Option.some.inj h)
        · refine v_aload_n C 6 dX10_goOnce_123 rfl rfl ?_
          refine v_iconst C (3 : Int32) dX10_goOnce_124 (by decide) ?_
          refine v_putI C fdX10_32 (fun h => by cases h) dX10_goOnce_125 h (fun u30 h => ?_)
          refine v_goto C 168 dX10_goOnce_128 (by decide) ?_
          exact v_vret C dX10_goOnce_168 (Option.some.inj h)
      · refine v_aload_n C 6 dX10_goOnce_93 rfl rfl ?_
        refine v_iconst C (0 : Int32) dX10_goOnce_94 (by decide) ?_
        refine v_putI C fdX10_32 (fun h => by cases h) dX10_goOnce_95 h (fun u31 h => ?_)
        refine v_goto C 168 dX10_goOnce_98 (by decide) ?_
        exact v_vret C dX10_goOnce_168 (Option.some.inj h)
    · refine v_aload_n C 5 dX10_goOnce_65 rfl rfl ?_
      refine v_iconst C (1 : Int32) dX10_goOnce_66 (by decide) ?_
      refine v_putI C fdX10_32 (fun h => by cases h) dX10_goOnce_67 h (fun u32 h => ?_)
      exact v_vret C dX10_goOnce_70 (Option.some.inj h)
  · refine v_aload_n C 3 dX10_goOnce_38 rfl rfl ?_
    refine v_iconst C (2 : Int32) dX10_goOnce_39 (by decide) ?_
    refine v_putI C fdX10_32 (fun h => by cases h) dX10_goOnce_40 h (fun u33 h => ?_)
    exact v_vret C dX10_goOnce_43 (Option.some.inj h)
set_option maxRecDepth 100000 in
set_option maxHeartbeats 4000000 in
theorem wX10_go_B35 {X : UX} {D : UD} {bs tw : Nat} {u0 : UH} {r : Int32} {v : UH} (C : uCx X D bs tw cX10_go 5 RX10 (some .int)) (hin : X.2.2.2.2.2.2.2.1.name = "go") {a0 : Nat} {x3 : Int32}  {G : (UH ⊕ (Int32 × UH)) → Prop} {k : Int32 → UH → Option (UH ⊕ (Int32 × UH))} (hk : ∀ (x4 : Int32) (u' : UH) e, k x4 u' = some e → G e → VV X D bs u0 rmX10_go 5 0 0 (MQ X.2.2.2.2.2.2.1 (uQi D bs u0 v r) X.2.2.2.2.2.1 X.2.2.2.1 0 0 (uA bs u0)) u' 35 [(0, .ref (bs + a0)), (3, .int x3), (4, .int x4)] []) (hex : ∀  (u' : UH), G (Sum.inl u') → VV X D bs u0 rmX10_go 5 0 0 (MQ X.2.2.2.2.2.2.1 (uQi D bs u0 v r) X.2.2.2.2.2.1 X.2.2.2.1 0 0 (uA bs u0)) u' 62 [(3, .int x3)] []) (hret : ∀ x, G (Sum.inr x) → x = (r, v)) : ∀ (x4 : Int32) (u : UH) e, fX10_go_B35 a0 x3  k x4 u = some e → G e → VV X D bs u0 rmX10_go 5 0 0 (MQ X.2.2.2.2.2.2.1 (uQi D bs u0 v r) X.2.2.2.2.2.1 X.2.2.2.1 0 0 (uA bs u0)) u 35 [(0, .ref (bs + a0)), (3, .int x3), (4, .int x4)] [] := by
  intro x4 u e h g
  unfold fX10_go_B35 at h
  refine v_iload C 2 dX10_go_35 rfl ?_
  refine v_iload_n C 1 dX10_go_37 rfl rfl ?_
  refine v_icmpge C 62 dX10_go_38 (by decide) h (fun _ h => ?_) (fun _ h => ?_)
  · refine v_sub [(3, .int x3)] [1] rfl ?_
    exact hex u ((Option.some.inj h).symm ▸ g)
  · refine v_aload_n C 0 dX10_go_41 rfl rfl ?_
    obtain ⟨u8, h1, h⟩ := ob_some h
    obtain ⟨hkd, h1⟩ := kd_some h1
    refine v_gov (rn_V C gcX10_35 (RX10, TX10, 5) rfl rfl (by decide) hkd (mX10_goOnce h1) ⟨rfl, rfl⟩ rfl ⟨Nat.le_of_ble_eq_true rfl, Nat.le_of_ble_eq_true rfl⟩ (rest := []) rfl (Nat.le_of_ble_eq_true rfl) ⟨Nat.le_of_ble_eq_true rfl, Nat.le_of_ble_eq_true rfl⟩ dX10_go_42) ?_
    refine v_aload_n C 0 dX10_go_45 rfl rfl ?_
    refine v_getI C fdX10_32 dX10_go_46 h (fun y9 h => ?_)
    refine v_iconst C (4 : Int32) dX10_go_49 (by decide) ?_
    refine v_icmpeq C 56 dX10_go_50 (by decide) h (fun _ h => ?_) (fun _ h => ?_)
    · refine v_iinc C 2 (x4 + (1 : Int32)) [(4, .int (x4 + (1 : Int32))), (0, .ref (bs + a0)), (3, .int x3)] dX10_go_56 rfl rfl (by decide) rfl ?_
      refine v_goto C 35 dX10_go_59 (by decide) ?_
      refine v_sub [(0, .ref (bs + a0)), (3, .int x3), (4, .int (x4 + (1 : Int32)))] [1, 2, 0] rfl ?_
      exact hk (x4 + (1 : Int32)) u8 _ h g
    · refine v_iload C 2 dX10_go_53 rfl ?_
      have h := hret (x4, u8) ((Option.some.inj h).symm ▸ g)
      exact v_iret C dX10_go_55 (Prod.mk.inj h).2 (Prod.mk.inj h).1
set_option maxRecDepth 100000 in
set_option maxHeartbeats 4000000 in
theorem mX10_go {l : Launch} {D : UD} {bs : Nat} {a0 : Nat} {x1 : Int32} {x2 : Int32} {x3 : Int32} {u0 : UH} {r : Int32} {v : UH} (h : fX10_go a0 x1 x2 x3 u0 = some (r, v)) : Met l yX10_go (wz yX10_go cX10_go 5 (some .int)) rmX10_go (va_Pc [.ref (bs + a0), .int x1, .int x2, .int x3] (uIn D bs u0)) (uQi D bs u0 v r) 0 0 (uA bs u0) := by
  refine uMet (by decide) (Nat.le_of_ble_eq_true rfl) ?_
  intro X tw hX C hin
  have C : uCx X D bs tw cX10_go 5 RX10 (some .int) := C
  have hin : X.2.2.2.2.2.2.2.1.name = "go" := hin
  refine v_L [(0, .ref (bs + a0)), (1, .int x1), (2, .int x2), (3, .int x3)] rfl ?_
  unfold fX10_go at h
  refine v_aload_n C 0 dX10_go_0 rfl rfl ?_
  refine v_getR C fdX10_9 dX10_go_1 h (fun b1 h => ?_)
  refine v_lconst C (0 : Int64) dX10_go_4 (by decide) ?_
  obtain ⟨u2, h1, h⟩ := ob_some h
  refine v_gov (rn_S C gcX10_19 (mJ7_fill_d0a16 h1) ⟨rfl, rfl⟩ rfl ⟨Nat.le_of_ble_eq_true rfl, Nat.le_of_ble_eq_true rfl⟩ (rest := []) rfl (Nat.le_of_ble_eq_true rfl) ⟨Nat.le_of_ble_eq_true rfl, Nat.le_of_ble_eq_true rfl⟩ dX10_go_5) ?_
  refine v_aload_n C 0 dX10_go_8 rfl rfl ?_
  refine v_iload_n C 1 dX10_go_9 rfl rfl ?_
  refine v_putI C fdX10_25 (fun h => by cases h) dX10_go_10 h (fun u3 h => ?_)
  refine v_aload_n C 0 dX10_go_13 rfl rfl ?_
  refine v_iload_n C 2 dX10_go_14 rfl rfl ?_
  refine v_putI C fdX10_29 (fun h => by cases h) dX10_go_15 h (fun u4 h => ?_)
  refine v_aload_n C 0 dX10_go_18 rfl rfl ?_
  refine v_getR C fdX10_9 dX10_go_19 h (fun b5 h => ?_)
  refine v_iload_n C 1 dX10_go_22 rfl rfl ?_
  refine v_lconst C (1 : Int64) dX10_go_23 (by decide) ?_
  refine v_iload_n C 2 dX10_go_24 rfl rfl ?_
  refine v_lshl C dX10_go_25 ?_
  refine v_stJ C dX10_go_26 h (fun u6 h => ?_)
  refine v_aload_n C 0 dX10_go_27 rfl rfl ?_
  refine v_iconst C (4 : Int32) dX10_go_28 (by decide) ?_
  refine v_putI C fdX10_32 (fun h => by cases h) dX10_go_29 h (fun u7 h => ?_)
  refine v_iconst C (0 : Int32) dX10_go_32 (by decide) ?_
  refine v_istore C [(4, .int (0 : Int32)), (0, .ref (bs + a0)), (1, .int x1), (2, .int x2), (3, .int x3)] dX10_go_33 (by decide) rfl ?_
  refine v_sub [(0, .ref (bs + a0)), (3, .int x3), (4, .int (0 : Int32))] [1, 4, 0] rfl ?_
  refine it2_S (V := fun x4 u' => VV X D bs u0 rmX10_go 5 0 0 (MQ X.2.2.2.2.2.2.1 (uQi D bs u0 v r) X.2.2.2.2.2.1 X.2.2.2.1 0 0 (uA bs u0)) u' 35 [(0, .ref (bs + a0)), (3, .int x3), (4, .int x4)] []) h (fun k_ hk_ => wX10_go_B35 C hin hk_ ?_ (fun x hx => Option.some.inj (show some x = some _ from hx)))
  intro z11 h
  try dsimp only [Sum.elim_inl] at h
  refine v_iload_n C 0 dX10_go_62 rfl rfl ?_
  exact v_iret C dX10_go_63 (Prod.mk.inj (Option.some.inj h)).2 (Prod.mk.inj (Option.some.inj h)).1
set_option maxRecDepth 100000 in
set_option maxHeartbeats 4000000 in
theorem mX11_trace {l : Launch} {D : UD} {bs : Nat} {a0 : Nat} {x1 : Int32} {x2 : Int32} {u0 : UH} {r : Int32} {v : UH} (h : fX11_trace a0 x1 x2 u0 = some (r, v)) : Met l yX11_trace (wz yX11_trace cX11_trace 4 (some .int)) rmX11_trace (va_Pc [.ref (bs + a0), .int x1, .int x2] (uIn D bs u0)) (uQi D bs u0 v r) 0 0 (uA bs u0) := by
  refine uMet (by decide) (Nat.le_of_ble_eq_true rfl) ?_
  intro X tw hX C hin
  have C : uCx X D bs tw cX11_trace 4 RX11 (some .int) := C
  have hin : X.2.2.2.2.2.2.2.1.name = "trace" := hin
  refine v_L [(0, .ref (bs + a0)), (1, .int x1), (2, .int x2)] rfl ?_
  unfold fX11_trace at h
  refine v_aload_n C 0 dX11_trace_0 rfl rfl ?_
  refine v_iload_n C 1 dX11_trace_1 rfl rfl ?_
  obtain ⟨y1, h1, h⟩ := ob_some h
  obtain ⟨hkd, h1⟩ := kd_some h1
  refine v_goi (rn_V C gcX11_259 (RX11, TX11, 12) rfl rfl (by decide) hkd (mX11_isInjected h1) ⟨rfl, rfl⟩ rfl ⟨Nat.le_of_ble_eq_true rfl, Nat.le_of_ble_eq_true rfl⟩ (rest := []) rfl (Nat.le_of_ble_eq_true rfl) ⟨Nat.le_of_ble_eq_true rfl, Nat.le_of_ble_eq_true rfl⟩ dX11_trace_2) ?_
  refine v_ifeq C 12 dX11_trace_5 (by decide) h (fun _ h => ?_) (fun _ h => ?_)
  · refine v_bipush C (-3 : Int32) dX11_trace_12 (by decide) ?_
    exact v_iret C dX11_trace_14 (Prod.mk.inj (Option.some.inj h)).2 (Prod.mk.inj (Option.some.inj h)).1
  · refine v_iload_n C 2 dX11_trace_8 rfl rfl ?_
    refine v_ifge C 15 dX11_trace_9 (by decide) h (fun _ h => ?_) (fun _ h => ?_)
    · refine v_aload_n C 0 dX11_trace_15 rfl rfl ?_
      refine v_getR C fdX11_44 dX11_trace_16 h (fun b2 h => ?_)
      refine v_aload_n C 0 dX11_trace_19 rfl rfl ?_
      refine v_getI C fdX11_98 dX11_trace_20 h (fun y3 h => ?_)
      refine v_iload_n C 1 dX11_trace_23 rfl rfl ?_
      refine v_iload_n C 2 dX11_trace_24 rfl rfl ?_
      refine v_sipush C (768 : Int32) dX11_trace_25 (by decide) ?_
      refine v_min C tw675 tw445 tw15 tw446 (Nat.le_of_ble_eq_true rfl) (Nat.le_of_ble_eq_true rfl) (Nat.le_of_ble_eq_true rfl) (Nat.le_of_ble_eq_true rfl) dX11_trace_28 ?_
      obtain ⟨y4, u5, h1, h⟩ := ob2_some h
      obtain ⟨hkd, h1⟩ := kd_some h1
      refine v_goi (rn_V C gcX11_271 (RX10, TX10, 5) rfl rfl (by decide) hkd (mX10_go h1) ⟨rfl, rfl⟩ rfl ⟨Nat.le_of_ble_eq_true rfl, Nat.le_of_ble_eq_true rfl⟩ (rest := []) rfl (Nat.le_of_ble_eq_true rfl) ⟨Nat.le_of_ble_eq_true rfl, Nat.le_of_ble_eq_true rfl⟩ dX11_trace_31) ?_
      refine v_istore_n C [(3, .int y4), (0, .ref (bs + a0)), (1, .int x1), (2, .int x2)] dX11_trace_34 rfl (by decide) rfl ?_
      refine v_iload_n C 0 dX11_trace_35 rfl rfl ?_
      refine v_iload_n C 3 dX11_trace_36 rfl rfl ?_
      refine v_icmpge C 43 dX11_trace_37 (by decide) h (fun _ h => ?_) (fun _ h => ?_)
      · refine v_sipush C (1000 : Int32) dX11_trace_43 (by decide) ?_
        refine v_aload_n C 1 dX11_trace_46 rfl rfl ?_
        refine v_getR C fdX11_44 dX11_trace_47 h (fun b6 h => ?_)
        refine v_getI C fdX11_274 dX11_trace_50 h (fun y7 h => ?_)
        refine v_iconst C (4 : Int32) dX11_trace_53 (by decide) ?_
        refine v_idiv C dX11_trace_54 (by decide) ?_
        refine v_imul C dX11_trace_55 ?_
        refine v_bipush C (100 : Int32) dX11_trace_56 (by decide) ?_
        refine v_aload_n C 1 dX11_trace_58 rfl rfl ?_
        refine v_getR C fdX11_44 dX11_trace_59 h (fun b8 h => ?_)
        refine v_getI C fdX11_274 dX11_trace_62 h (fun y9 h => ?_)
        refine v_iconst C (4 : Int32) dX11_trace_65 (by decide) ?_
        refine v_irem C dX11_trace_66 (by decide) ?_
        refine v_imul C dX11_trace_67 ?_
        refine v_iadd C dX11_trace_68 ?_
        refine v_aload_n C 1 dX11_trace_69 rfl rfl ?_
        refine v_getR C fdX11_44 dX11_trace_70 h (fun b10 h => ?_)
        refine v_getI C fdX11_277 dX11_trace_73 h (fun y11 h => ?_)
        refine v_iadd C dX11_trace_76 ?_
        exact v_iret C dX11_trace_77 (Prod.mk.inj (Option.some.inj h)).2 (Prod.mk.inj (Option.some.inj h)).1
      · refine v_bipush C (-6 : Int32) dX11_trace_40 (by decide) ?_
        exact v_iret C dX11_trace_42 (Prod.mk.inj (Option.some.inj h)).2 (Prod.mk.inj (Option.some.inj h)).1
    · refine v_bipush C (-3 : Int32) dX11_trace_12 (by decide) ?_
      exact v_iret C dX11_trace_14 (Prod.mk.inj (Option.some.inj h)).2 (Prod.mk.inj (Option.some.inj h)).1
set_option maxRecDepth 100000 in
set_option maxHeartbeats 4000000 in
theorem mX11_traceEnd {l : Launch} {D : UD} {bs : Nat} {a0 : Nat} {x1 : Int32} {u0 : UH} {r : Int32} {v : UH} (h : fX11_traceEnd a0 x1 u0 = some (r, v)) : Met l yX11_traceEnd (wz yX11_traceEnd cX11_traceEnd 2 (some .int)) rmX11_traceEnd (va_Pc [.ref (bs + a0), .int x1] (uIn D bs u0)) (uQi D bs u0 v r) 0 0 (uA bs u0) := by
  refine uMet (by decide) (Nat.le_of_ble_eq_true rfl) ?_
  intro X tw hX C hin
  have C : uCx X D bs tw cX11_traceEnd 2 RX11 (some .int) := C
  have hin : X.2.2.2.2.2.2.2.1.name = "traceEnd" := hin
  refine v_L [(0, .ref (bs + a0)), (1, .int x1)] rfl ?_
  unfold fX11_traceEnd at h
  refine v_aload_n C 0 dX11_traceEnd_0 rfl rfl ?_
  refine v_iload_n C 1 dX11_traceEnd_1 rfl rfl ?_
  obtain ⟨y1, h1, h⟩ := ob_some h
  obtain ⟨hkd, h1⟩ := kd_some h1
  refine v_goi (rn_V C gcX11_259 (RX11, TX11, 12) rfl rfl (by decide) hkd (mX11_isInjected h1) ⟨rfl, rfl⟩ rfl ⟨Nat.le_of_ble_eq_true rfl, Nat.le_of_ble_eq_true rfl⟩ (rest := []) rfl (Nat.le_of_ble_eq_true rfl) ⟨Nat.le_of_ble_eq_true rfl, Nat.le_of_ble_eq_true rfl⟩ dX11_traceEnd_2) ?_
  refine v_ifne C 11 dX11_traceEnd_5 (by decide) h (fun _ h => ?_) (fun _ h => ?_)
  · refine v_aload_n C 0 dX11_traceEnd_11 rfl rfl ?_
    refine v_getR C fdX11_44 dX11_traceEnd_12 h (fun b2 h => ?_)
    refine v_aload_n C 0 dX11_traceEnd_15 rfl rfl ?_
    refine v_getI C fdX11_98 dX11_traceEnd_16 h (fun y3 h => ?_)
    refine v_iload_n C 1 dX11_traceEnd_19 rfl rfl ?_
    refine v_sipush C (768 : Int32) dX11_traceEnd_20 (by decide) ?_
    obtain ⟨y4, u5, h1, h⟩ := ob2_some h
    obtain ⟨hkd, h1⟩ := kd_some h1
    refine v_goi (rn_V C gcX11_271 (RX10, TX10, 5) rfl rfl (by decide) hkd (mX10_go h1) ⟨rfl, rfl⟩ rfl ⟨Nat.le_of_ble_eq_true rfl, Nat.le_of_ble_eq_true rfl⟩ (rest := []) rfl (Nat.le_of_ble_eq_true rfl) ⟨Nat.le_of_ble_eq_true rfl, Nat.le_of_ble_eq_true rfl⟩ dX11_traceEnd_23) ?_
    refine v_pop C dX11_traceEnd_26 rfl ?_
    refine v_aload_n C 0 dX11_traceEnd_27 rfl rfl ?_
    refine v_getR C fdX11_44 dX11_traceEnd_28 h (fun b6 h => ?_)
    refine v_getI C fdX11_280 dX11_traceEnd_31 h (fun y7 h => ?_)
    exact v_iret C dX11_traceEnd_34 (Prod.mk.inj (Option.some.inj h)).2 (Prod.mk.inj (Option.some.inj h)).1
  · refine v_bipush C (-3 : Int32) dX11_traceEnd_8 (by decide) ?_
    exact v_iret C dX11_traceEnd_10 (Prod.mk.inj (Option.some.inj h)).2 (Prod.mk.inj (Option.some.inj h)).1
