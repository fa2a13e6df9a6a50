set_option maxRecDepth 100000 in
set_option maxHeartbeats 4000000 in
theorem wX11_cubeHeaders_B7 {X : UX} {D : UD} {bs tw : Nat} {u0 : UH} {r : Int64} (C : uCx X D bs tw cX11_cubeHeaders 5 RX11 (some .long)) (hin : X.2.2.2.2.2.2.2.1.name = "cubeHeaders") {x0 : Int32} {x1 : Int32}  {G : Int64 → Prop} {k : Int64 → Int32 → Option Int64} (hk : ∀ (x2 : Int64) (x4 : Int32)  e, k x2 x4  = some e → G e → VV X D bs u0 rmX11_cubeHeaders 5 0 0 (MQ X.2.2.2.2.2.2.1 (uQl D bs u0 u0 r) X.2.2.2.2.2.1 X.2.2.2.1 0 0 (uA bs u0)) u0 7 [(0, .int x0), (1, .int x1), (2, .long x2), (4, .int x4)] []) (hex : ∀ (x2 : Int64) , G x2 → VV X D bs u0 rmX11_cubeHeaders 5 0 0 (MQ X.2.2.2.2.2.2.1 (uQl D bs u0 u0 r) X.2.2.2.2.2.1 X.2.2.2.1 0 0 (uA bs u0)) u0 59 [(2, .long x2)] [])  : ∀ (x2 : Int64) (x4 : Int32)  e, fX11_cubeHeaders_B7 x0 x1 u0 k x2 x4  = some e → G e → VV X D bs u0 rmX11_cubeHeaders 5 0 0 (MQ X.2.2.2.2.2.2.1 (uQl D bs u0 u0 r) X.2.2.2.2.2.1 X.2.2.2.1 0 0 (uA bs u0)) u0 7 [(0, .int x0), (1, .int x1), (2, .long x2), (4, .int x4)] [] := by
  intro x2 x4  e h g
  unfold fX11_cubeHeaders_B7 at h
  refine v_iload C 3 dX11_cubeHeaders_7 rfl ?_
  refine v_iconst C (5 : Int32) dX11_cubeHeaders_9 (by decide) ?_
  refine v_icmpge C 59 dX11_cubeHeaders_10 (by decide) h (fun _ h => ?_) (fun _ h => ?_)
  · refine v_sub [(2, .long x2)] [2] rfl ?_
    exact hex x2 ((Option.some.inj h).symm ▸ g)
  · refine v_iload_n C 0 dX11_cubeHeaders_13 rfl rfl ?_
    refine v_iload C 3 dX11_cubeHeaders_14 rfl ?_
    refine v_ishr C dX11_cubeHeaders_16 ?_
    refine v_iconst C (1 : Int32) dX11_cubeHeaders_17 (by decide) ?_
    refine v_iand C dX11_cubeHeaders_18 ?_
    refine v_ifeq C 53 dX11_cubeHeaders_19 (by decide) h (fun _ h => ?_) (fun _ h => ?_)
    · refine v_iinc C 3 (x4 + (1 : Int32)) [(4, .int (x4 + (1 : Int32))), (0, .int x0), (1, .int x1), (2, .long x2)] dX11_cubeHeaders_53 rfl rfl (by decide) rfl ?_
      refine v_goto C 7 dX11_cubeHeaders_56 (by decide) ?_
      refine v_sub [(0, .int x0), (1, .int x1), (2, .long x2), (4, .int (x4 + (1 : Int32)))] [1, 2, 3, 0] rfl ?_
      exact hk x2 (x4 + (1 : Int32)) _ h g
    · refine v_lload_n C 2 dX11_cubeHeaders_22 rfl rfl ?_
      refine v_iload_n C 1 dX11_cubeHeaders_23 rfl rfl ?_
      refine v_iload C 3 dX11_cubeHeaders_24 rfl ?_
      refine v_ishr C dX11_cubeHeaders_26 ?_
      refine v_iconst C (1 : Int32) dX11_cubeHeaders_27 (by decide) ?_
      refine v_iand C dX11_cubeHeaders_28 ?_
      refine v_ifeq C 41 dX11_cubeHeaders_29 (by decide) h (fun _ h => ?_) (fun _ h => ?_)
      · refine v_gets C tw43 dX11_cubeHeaders_41 ?_
        refine v_iload C 3 dX11_cubeHeaders_44 rfl ?_
        refine v_wb C dX11_cubeHeaders_46 h (fun y1 h => ?_)
        refine v_ldc2 C (-1 : Int64) tw45 dX11_cubeHeaders_47 ?_
        refine v_lxor C dX11_cubeHeaders_50 ?_
        refine v_land C dX11_cubeHeaders_51 ?_
        refine v_ltl h (fun y2 h => ?_)
        refine v_lstore_n C [(2, .long y2), (0, .int x0), (1, .int x1), (4, .int x4)] dX11_cubeHeaders_52 rfl (by decide) rfl ?_
        refine v_iinc C 3 (x4 + (1 : Int32)) [(4, .int (x4 + (1 : Int32))), (2, .long y2), (0, .int x0), (1, .int x1)] dX11_cubeHeaders_53 rfl rfl (by decide) rfl ?_
        refine v_goto C 7 dX11_cubeHeaders_56 (by decide) ?_
        refine v_sub [(0, .int x0), (1, .int x1), (2, .long y2), (4, .int (x4 + (1 : Int32)))] [2, 3, 1, 0] rfl ?_
        exact hk y2 (x4 + (1 : Int32)) _ h g
      · refine v_gets C tw43 dX11_cubeHeaders_32 ?_
        refine v_iload C 3 dX11_cubeHeaders_35 rfl ?_
        refine v_wb C dX11_cubeHeaders_37 h (fun y3 h => ?_)
        refine v_goto C 51 dX11_cubeHeaders_38 (by decide) ?_
        refine v_land C dX11_cubeHeaders_51 ?_
        refine v_ltl h (fun y4 h => ?_)
        refine v_lstore_n C [(2, .long y4), (0, .int x0), (1, .int x1), (4, .int x4)] dX11_cubeHeaders_52 rfl (by decide) rfl ?_
        refine v_iinc C 3 (x4 + (1 : Int32)) [(4, .int (x4 + (1 : Int32))), (2, .long y4), (0, .int x0), (1, .int x1)] dX11_cubeHeaders_53 rfl rfl (by decide) rfl ?_
        refine v_goto C 7 dX11_cubeHeaders_56 (by decide) ?_
        refine v_sub [(0, .int x0), (1, .int x1), (2, .long y4), (4, .int (x4 + (1 : Int32)))] [2, 3, 1, 0] rfl ?_
        exact hk y4 (x4 + (1 : Int32)) _ h g
set_option maxRecDepth 100000 in
set_option maxHeartbeats 4000000 in
theorem mX11_cubeHeaders {l : Launch} {D : UD} {bs : Nat} {x0 : Int32} {x1 : Int32} {u0 : UH} {r : Int64} (h : fX11_cubeHeaders x0 x1 u0 = some r) : Met l yX11_cubeHeaders (wz yX11_cubeHeaders cX11_cubeHeaders 5 (some .long)) rmX11_cubeHeaders (va_Pc [.int x0, .int x1] (uIn D bs u0)) (uQl D bs u0 u0 r) 0 0 (uA bs u0) := by
  refine uMet (by decide) (Nat.le_of_ble_eq_true rfl) ?_
  intro X tw hX C hin
  have C : uCx X D bs tw cX11_cubeHeaders 5 RX11 (some .long) := C
  have hin : X.2.2.2.2.2.2.2.1.name = "cubeHeaders" := hin
  refine v_L [(0, .int x0), (1, .int x1)] rfl ?_
  unfold fX11_cubeHeaders at h
  refine v_ldc2 C (4294967295 : Int64) tw42 dX11_cubeHeaders_0 ?_
  refine v_lstore_n C [(2, .long (4294967295 : Int64)), (0, .int x0), (1, .int x1)] dX11_cubeHeaders_3 rfl (by decide) rfl ?_
  refine v_iconst C (0 : Int32) dX11_cubeHeaders_4 (by decide) ?_
  refine v_istore C [(4, .int (0 : Int32)), (2, .long (4294967295 : Int64)), (0, .int x0), (1, .int x1)] dX11_cubeHeaders_5 (by decide) rfl ?_
  refine v_sub [(0, .int x0), (1, .int x1), (2, .long (4294967295 : Int64)), (4, .int (0 : Int32))] [2, 3, 1, 0] rfl ?_
  refine it2_O (V := fun x2 x4 => VV X D bs u0 rmX11_cubeHeaders 5 0 0 (MQ X.2.2.2.2.2.2.1 (uQl D bs u0 u0 r) X.2.2.2.2.2.1 X.2.2.2.1 0 0 (uA bs u0)) u0 7 [(0, .int x0), (1, .int x1), (2, .long x2), (4, .int x4)] []) h (fun k_ hk_ => wX11_cubeHeaders_B7 C hin hk_ ?_ )
  intro z6 h
  try dsimp only [Sum.elim_inl] at h
  refine v_lload_n C 0 dX11_cubeHeaders_59 rfl rfl ?_
  exact v_lret C dX11_cubeHeaders_60 rfl (Option.some.inj h)
set_option maxRecDepth 100000 in
set_option maxHeartbeats 4000000 in
theorem mX6_init {l : Launch} {D : UD} {bs : Nat} {a0 : Nat} {x1 : Int32} {x2 : Int32} {x3 : Int32} {x4 : Int32} {x5 : Int32} {x6 : Int32} {x7 : Int32} {u0 : UH} {v : UH} (h : fX6_init a0 x1 x2 x3 x4 x5 x6 x7 u0 = some v) : Met l yX6_init (wz yX6_init cX6_init 8 none) rmX6_init (va_Pc [.ref (bs + a0), .int x1, .int x2, .int x3, .int x4, .int x5, .int x6, .int x7] (uIn D bs u0)) (uQv D bs u0 v) 0 0 (uA bs u0) := by
  refine uMet (by decide) (Nat.le_of_ble_eq_true rfl) ?_
  intro X tw hX C hin
  have C : uCx X D bs tw cX6_init 8 RX6 none := C
  have hin : X.2.2.2.2.2.2.2.1.name = "<init>" := hin
  refine v_L [(0, .ref (bs + a0)), (1, .int x1), (2, .int x2), (3, .int x3), (4, .int x4), (5, .int x5), (6, .int x6), (7, .int x7)] rfl ?_
  unfold fX6_init at h
  refine v_aload_n C 0 dX6_init_0 rfl rfl ?_
  refine v_objInit C tw38 tw23 tw24 (Nat.le_of_ble_eq_true rfl) (Nat.le_of_ble_eq_true rfl) dX6_init_1 ?_
  refine v_aload_n C 0 dX6_init_4 rfl rfl ?_
  refine v_iload_n C 1 dX6_init_5 rfl rfl ?_
  refine v_putI C fdX6_9 (fun _ => hin) dX6_init_6 h (fun u1 h => ?_)
  refine v_aload_n C 0 dX6_init_9 rfl rfl ?_
  refine v_iload_n C 2 dX6_init_10 rfl rfl ?_
  refine v_putI C fdX6_15 (fun _ => hin) dX6_init_11 h (fun u2 h => ?_)
  refine v_aload_n C 0 dX6_init_14 rfl rfl ?_
  refine v_iload_n C 3 dX6_init_15 rfl rfl ?_
  refine v_iload_n C 2 dX6_init_16 rfl rfl ?_
  refine v_iand C dX6_init_17 ?_
  refine v_putI C fdX6_18 (fun _ => hin) dX6_init_18 h (fun u3 h => ?_)
  refine v_aload_n C 0 dX6_init_21 rfl rfl ?_
  refine v_iload C 4 dX6_init_22 rfl ?_
  refine v_putI C fdX6_21 (fun _ => hin) dX6_init_24 h (fun u4 h => ?_)
  refine v_aload_n C 0 dX6_init_27 rfl rfl ?_
  refine v_iload C 5 dX6_init_28 rfl ?_
  refine v_putI C fdX6_24 (fun _ => hin) dX6_init_30 h (fun u5 h => ?_)
  refine v_aload_n C 0 dX6_init_33 rfl rfl ?_
  refine v_iload C 6 dX6_init_34 rfl ?_
  refine v_iload C 5 dX6_init_36 rfl ?_
  refine v_iand C dX6_init_38 ?_
  refine v_putI C fdX6_27 (fun _ => hin) dX6_init_39 h (fun u6 h => ?_)
  refine v_aload_n C 0 dX6_init_42 rfl rfl ?_
  refine v_iload C 7 dX6_init_43 rfl ?_
  refine v_putZ C fdX6_30 (fun _ => hin) dX6_init_45 h (fun u7 h => ?_)
  refine v_aload_n C 0 dX6_init_48 rfl rfl ?_
  refine v_iload_n C 2 dX6_init_49 rfl rfl ?_
  refine v_iload_n C 3 dX6_init_50 rfl rfl ?_
  obtain ⟨y8, h1, h⟩ := ob_some h
  refine v_gol (rn_N C gcX6_34 (mX11_cubeHeaders h1) ⟨rfl, rfl⟩ rfl ⟨Nat.le_of_ble_eq_true rfl, Nat.le_of_ble_eq_true rfl⟩ (rest := [.ref (bs + a0)]) rfl (Nat.le_of_ble_eq_true rfl) ⟨Nat.le_of_ble_eq_true rfl, Nat.le_of_ble_eq_true rfl⟩ dX6_init_51) ?_
  refine v_putJ C fdX6_38 (fun _ => hin) dX6_init_54 h (fun u9 h => ?_)
  exact v_vret C dX6_init_57 (Option.some.inj h)
set_option maxRecDepth 100000 in
set_option maxHeartbeats 4000000 in
theorem wX7_init_B15 {X : UX} {D : UD} {bs tw : Nat} {u0 : UH} {v : UH} (C : uCx X D bs tw cX7_init 3 RX7 none) (hin : X.2.2.2.2.2.2.2.1.name = "<init>") {a0 : Nat} {a1 : Nat}  {G : UH → Prop} {k : Int32 → UH → Option UH} (hk : ∀ (x2 : Int32) (u' : UH) e, k x2 u' = some e → G e → VV X D bs u0 rmX7_init 3 1 6 (MQ X.2.2.2.2.2.2.1 (uQv D bs u0 v) X.2.2.2.2.2.1 X.2.2.2.1 1 6 (uA bs u0)) u' 15 [(0, .ref (bs + a0)), (1, .ref (bs + a1)), (2, .int x2)] []) (hex : ∀  (u' : UH), G u' → VV X D bs u0 rmX7_init 3 1 6 (MQ X.2.2.2.2.2.2.1 (uQv D bs u0 v) X.2.2.2.2.2.1 X.2.2.2.1 1 6 (uA bs u0)) u' 34 [] [])  : ∀ (x2 : Int32) (u : UH) e, fX7_init_B15 a0 a1  k x2 u = some e → G e → VV X D bs u0 rmX7_init 3 1 6 (MQ X.2.2.2.2.2.2.1 (uQv D bs u0 v) X.2.2.2.2.2.1 X.2.2.2.1 1 6 (uA bs u0)) u 15 [(0, .ref (bs + a0)), (1, .ref (bs + a1)), (2, .int x2)] [] := by
  intro x2 u e h g
  unfold fX7_init_B15 at h
  refine v_iload_n C 2 dX7_init_15 rfl rfl ?_
  refine v_bipush C (6 : Int32) dX7_init_16 (by decide) ?_
  refine v_icmpge C 34 dX7_init_18 (by decide) h (fun _ h => ?_) (fun _ h => ?_)
  · refine v_sub [] [] rfl ?_
    exact hex u ((Option.some.inj h).symm ▸ g)
  · refine v_aload_n C 0 dX7_init_21 rfl rfl ?_
    refine v_getR C fdX7_11 dX7_init_22 h (fun b4 h => ?_)
    refine v_iload_n C 2 dX7_init_25 rfl rfl ?_
    refine v_aload_n C 1 dX7_init_26 rfl rfl ?_
    refine v_stR C 25 6 (RX6, TX6, 8) rfl rfl (by decide) (by decide) dX7_init_27 h (fun u5 h => ?_)
    refine v_iinc C 2 (x2 + (1 : Int32)) [(2, .int (x2 + (1 : Int32))), (0, .ref (bs + a0)), (1, .ref (bs + a1))] dX7_init_28 rfl rfl (by decide) rfl ?_
    refine v_goto C 15 dX7_init_31 (by decide) ?_
    refine v_sub [(0, .ref (bs + a0)), (1, .ref (bs + a1)), (2, .int (x2 + (1 : Int32)))] [1, 2, 0] rfl ?_
    exact hk (x2 + (1 : Int32)) u5 _ h g
set_option maxRecDepth 100000 in
set_option maxHeartbeats 4000000 in
theorem mX7_init {l : Launch} {D : UD} {bs : Nat} {a0 : Nat} {a1 : Nat} {u0 : UH} {v : UH} (h : fX7_init a0 a1 u0 = some v) : Met l yX7_init (wz yX7_init cX7_init 3 none) rmX7_init (va_Pc [.ref (bs + a0), .ref (bs + a1)] (uIn D bs u0)) (uQv D bs u0 v) 1 6 (uA bs u0) := by
  refine uMet (by decide) (Nat.le_of_ble_eq_true rfl) ?_
  intro X tw hX C hin
  have C : uCx X D bs tw cX7_init 3 RX7 none := C
  have hin : X.2.2.2.2.2.2.2.1.name = "<init>" := hin
  refine v_L [(0, .ref (bs + a0)), (1, .ref (bs + a1))] rfl ?_
  unfold fX7_init at h
  refine v_aload_n C 0 dX7_init_0 rfl rfl ?_
  refine v_objInit C tw94 tw23 tw24 (Nat.le_of_ble_eq_true rfl) (Nat.le_of_ble_eq_true rfl) dX7_init_1 ?_
  refine v_aload_n C 0 dX7_init_4 rfl rfl ?_
  refine v_bipush C (6 : Int32) dX7_init_5 (by decide) ?_
  refine v_anew C 25 6 rfl (by decide) tw95 tw96 (by decide) (by decide) (Nat.le_of_ble_eq_true rfl) (Nat.le_of_ble_eq_true rfl) (Nat.le_of_ble_eq_true rfl) dX7_init_7 h (fun b1 u2 h => ?_)
  refine v_putR C fdX7_11 (fun _ => rfl) (fun _ => rfl) (fun _ => hin) dX7_init_10 h (fun u3 h => ?_)
  refine v_iconst C (0 : Int32) dX7_init_13 (by decide) ?_
  refine v_istore_n C [(2, .int (0 : Int32)), (0, .ref (bs + a0)), (1, .ref (bs + a1))] dX7_init_14 rfl (by decide) rfl ?_
  refine v_sub [(0, .ref (bs + a0)), (1, .ref (bs + a1)), (2, .int (0 : Int32))] [1, 2, 0] rfl ?_
  refine it2_O (V := fun x2 u' => VV X D bs u0 rmX7_init 3 1 6 (MQ X.2.2.2.2.2.2.1 (uQv D bs u0 v) X.2.2.2.2.2.1 X.2.2.2.1 1 6 (uA bs u0)) u' 15 [(0, .ref (bs + a0)), (1, .ref (bs + a1)), (2, .int x2)] []) h (fun k_ hk_ => wX7_init_B15 C hin hk_ ?_ )
  intro z7 h
  try dsimp only [Sum.elim_inl] at h
  exact v_vret C dX7_init_34 (Option.some.inj h)
set_option maxRecDepth 100000 in
set_option maxHeartbeats 4000000 in
theorem wJ7_fill_53178_B5 {X : UX} {D : UD} {bs tw : Nat} {u0 : UH} {v : UH} (C : uCx X D bs tw cJ7_fill_53178 4 RJ7 none) (hin : X.2.2.2.2.2.2.2.1.name = "fill") {a0 : Nat} {x1 : Int32} {x3 : Int32}  {G : UH → Prop} {k : Int32 → UH → Option UH} (hk : ∀ (x2 : Int32) (u' : UH) e, k x2 u' = some e → G e → VV X D bs u0 rmJ7_fill_53178 4 0 0 (MQ X.2.2.2.2.2.2.1 (uQv D bs u0 v) X.2.2.2.2.2.1 X.2.2.2.1 0 0 (uA bs u0)) u' 5 [(0, .ref (bs + a0)), (1, .int x1), (2, .int x2), (3, .int x3)] []) (hex : ∀  (u' : UH), G u' → VV X D bs u0 rmJ7_fill_53178 4 0 0 (MQ X.2.2.2.2.2.2.1 (uQv D bs u0 v) X.2.2.2.2.2.1 X.2.2.2.1 0 0 (uA bs u0)) u' 20 [] [])  : ∀ (x2 : Int32) (u : UH) e, fJ7_fill_53178_B5 a0 x1 x3  k x2 u = some e → G e → VV X D bs u0 rmJ7_fill_53178 4 0 0 (MQ X.2.2.2.2.2.2.1 (uQv D bs u0 v) X.2.2.2.2.2.1 X.2.2.2.1 0 0 (uA bs u0)) u 5 [(0, .ref (bs + a0)), (1, .int x1), (2, .int x2), (3, .int x3)] [] := by
  intro x2 u e h g
  unfold fJ7_fill_53178_B5 at h
  refine v_iload_n C 2 dJ7_fill_53178_5 rfl rfl ?_
  refine v_iload_n C 3 dJ7_fill_53178_6 rfl rfl ?_
  refine v_icmpge C 20 dJ7_fill_53178_7 (by decide) h (fun _ h => ?_) (fun _ h => ?_)
  · refine v_sub [] [] rfl ?_
    exact hex u ((Option.some.inj h).symm ▸ g)
  · refine v_aload_n C 0 dJ7_fill_53178_10 rfl rfl ?_
    refine v_iload_n C 2 dJ7_fill_53178_11 rfl rfl ?_
    refine v_iload_n C 1 dJ7_fill_53178_12 rfl rfl ?_
    refine v_stI C dJ7_fill_53178_13 h (fun u2 h => ?_)
    refine v_iinc C 2 (x2 + (1 : Int32)) [(2, .int (x2 + (1 : Int32))), (0, .ref (bs + a0)), (1, .int x1), (3, .int x3)] dJ7_fill_53178_14 rfl rfl (by decide) rfl ?_
    refine v_goto C 5 dJ7_fill_53178_17 (by decide) ?_
    refine v_sub [(0, .ref (bs + a0)), (1, .int x1), (2, .int (x2 + (1 : Int32))), (3, .int x3)] [1, 2, 0, 3] rfl ?_
    exact hk (x2 + (1 : Int32)) u2 _ h g
set_option maxRecDepth 100000 in
set_option maxHeartbeats 4000000 in
theorem mJ7_fill_53178 {l : Launch} {D : UD} {bs : Nat} {a0 : Nat} {x1 : Int32} {u0 : UH} {v : UH} (h : fJ7_fill_53178 a0 x1 u0 = some v) : Met l yJ7_fill_53178 (wz yJ7_fill_53178 cJ7_fill_53178 4 none) rmJ7_fill_53178 (va_Pc [.ref (bs + a0), .int x1] (uIn D bs u0)) (uQv D bs u0 v) 0 0 (uA bs u0) := by
  refine uMet (by decide) (Nat.le_of_ble_eq_true rfl) ?_
  intro X tw hX C hin
  have C : uCx X D bs tw cJ7_fill_53178 4 RJ7 none := C
  have hin : X.2.2.2.2.2.2.2.1.name = "fill" := hin
  refine v_L [(0, .ref (bs + a0)), (1, .int x1)] rfl ?_
  unfold fJ7_fill_53178 at h
  refine v_iconst C (0 : Int32) dJ7_fill_53178_0 (by decide) ?_
  refine v_istore_n C [(2, .int (0 : Int32)), (0, .ref (bs + a0)), (1, .int x1)] dJ7_fill_53178_1 rfl (by decide) rfl ?_
  refine v_aload_n C 1 dJ7_fill_53178_2 rfl rfl ?_
  refine v_len C 20 _ rfl (by decide) dJ7_fill_53178_3 h (fun y1 h => ?_)
  refine v_istore_n C [(3, .int y1), (2, .int (0 : Int32)), (0, .ref (bs + a0)), (1, .int x1)] dJ7_fill_53178_4 rfl (by decide) rfl ?_
  refine v_sub [(0, .ref (bs + a0)), (1, .int x1), (2, .int (0 : Int32)), (3, .int y1)] [2, 3, 1, 0] rfl ?_
  refine it2_O (V := fun x2 u' => VV X D bs u0 rmJ7_fill_53178 4 0 0 (MQ X.2.2.2.2.2.2.1 (uQv D bs u0 v) X.2.2.2.2.2.1 X.2.2.2.1 0 0 (uA bs u0)) u' 5 [(0, .ref (bs + a0)), (1, .int x1), (2, .int x2), (3, .int y1)] []) h (fun k_ hk_ => wJ7_fill_53178_B5 C hin hk_ ?_ )
  intro z4 h
  try dsimp only [Sum.elim_inl] at h
  exact v_vret C dJ7_fill_53178_20 (Option.some.inj h)
set_option maxRecDepth 100000 in
set_option maxHeartbeats 4000000 in
theorem wX4_startAnew_B20 {X : UX} {D : UD} {bs tw : Nat} {u0 : UH} {v : UH} (C : uCx X D bs tw cX4_startAnew 3 RX4 none) (hin : X.2.2.2.2.2.2.2.1.name = "startAnew") {a0 : Nat}  {G : UH → Prop} {k : Int32 → UH → Option UH} (hk : ∀ (x2 : Int32) (u' : UH) e, k x2 u' = some e → G e → VV X D bs u0 rmX4_startAnew 3 0 0 (MQ X.2.2.2.2.2.2.1 (uQv D bs u0 v) X.2.2.2.2.2.1 X.2.2.2.1 0 0 (uA bs u0)) u' 20 [(0, .ref (bs + a0)), (2, .int x2)] []) (hex : ∀  (u' : UH), G u' → VV X D bs u0 rmX4_startAnew 3 0 0 (MQ X.2.2.2.2.2.2.1 (uQv D bs u0 v) X.2.2.2.2.2.1 X.2.2.2.1 0 0 (uA bs u0)) u' 42 [] [])  : ∀ (x2 : Int32) (u : UH) e, fX4_startAnew_B20 a0  k x2 u = some e → G e → VV X D bs u0 rmX4_startAnew 3 0 0 (MQ X.2.2.2.2.2.2.1 (uQv D bs u0 v) X.2.2.2.2.2.1 X.2.2.2.1 0 0 (uA bs u0)) u 20 [(0, .ref (bs + a0)), (2, .int x2)] [] := by
  intro x2 u e h g
  unfold fX4_startAnew_B20 at h
  refine v_iload_n C 1 dX4_startAnew_20 rfl rfl ?_
  refine v_bipush C (6 : Int32) dX4_startAnew_21 (by decide) ?_
  refine v_icmpge C 42 dX4_startAnew_23 (by decide) h (fun _ h => ?_) (fun _ h => ?_)
  · refine v_sub [] [] rfl ?_
    exact hex u ((Option.some.inj h).symm ▸ g)
  · refine v_aload_n C 0 dX4_startAnew_26 rfl rfl ?_
    refine v_getR C fdX4_17 dX4_startAnew_27 h (fun b5 h => ?_)
    refine v_iload_n C 1 dX4_startAnew_30 rfl rfl ?_
    refine v_ldR C 26 _ rfl (by decide) dX4_startAnew_31 h (fun b6 h => ?_)
    refine v_iconst C (0 : Int32) dX4_startAnew_32 (by decide) ?_
    refine v_putI C fdX4_46 (fun h => by cases h) dX4_startAnew_33 h (fun u7 h => ?_)
    refine v_iinc C 1 (x2 + (1 : Int32)) [(2, .int (x2 + (1 : Int32))), (0, .ref (bs + a0))] dX4_startAnew_36 rfl rfl (by decide) rfl ?_
    refine v_goto C 20 dX4_startAnew_39 (by decide) ?_
    refine v_sub [(0, .ref (bs + a0)), (2, .int (x2 + (1 : Int32)))] [1, 0] rfl ?_
    exact hk (x2 + (1 : Int32)) u7 _ h g
set_option maxRecDepth 100000 in
set_option maxHeartbeats 4000000 in
theorem mX4_startAnew {l : Launch} {D : UD} {bs : Nat} {a0 : Nat} {x1 : Int32} {u0 : UH} {v : UH} (h : fX4_startAnew a0 x1 u0 = some v) : Met l yX4_startAnew (wz yX4_startAnew cX4_startAnew 3 none) rmX4_startAnew (va_Pc [.ref (bs + a0), .int x1] (uIn D bs u0)) (uQv D bs u0 v) 0 0 (uA bs u0) := by
  refine uMet (by decide) (Nat.le_of_ble_eq_true rfl) ?_
  intro X tw hX C hin
  have C : uCx X D bs tw cX4_startAnew 3 RX4 none := C
  have hin : X.2.2.2.2.2.2.2.1.name = "startAnew" := hin
  refine v_L [(0, .ref (bs + a0)), (1, .int x1)] rfl ?_
  unfold fX4_startAnew at h
  refine v_aload_n C 0 dX4_startAnew_0 rfl rfl ?_
  refine v_iload_n C 1 dX4_startAnew_1 rfl rfl ?_
  refine v_putI C fdX4_33 (fun h => by cases h) dX4_startAnew_2 h (fun u1 h => ?_)
  refine v_aload_n C 0 dX4_startAnew_5 rfl rfl ?_
  refine v_iconst C (0 : Int32) dX4_startAnew_6 (by decide) ?_
  refine v_putI C fdX4_37 (fun h => by cases h) dX4_startAnew_7 h (fun u2 h => ?_)
  refine v_aload_n C 0 dX4_startAnew_10 rfl rfl ?_
  refine v_getR C fdX4_9 dX4_startAnew_11 h (fun b3 h => ?_)
  refine v_iconst C (-1 : Int32) dX4_startAnew_14 (by decide) ?_
  obtain ⟨u4, h1, h⟩ := ob_some h
  refine v_gov (rn_S C gcX4_40 (mJ7_fill_53178 h1) ⟨rfl, rfl⟩ rfl ⟨Nat.le_of_ble_eq_true rfl, Nat.le_of_ble_eq_true rfl⟩ (rest := []) rfl (Nat.le_of_ble_eq_true rfl) ⟨Nat.le_of_ble_eq_true rfl, Nat.le_of_ble_eq_true rfl⟩ dX4_startAnew_15) ?_
  refine v_iconst C (0 : Int32) dX4_startAnew_18 (by decide) ?_
  refine v_istore_n C [(2, .int (0 : Int32)), (0, .ref (bs + a0)), (1, .int x1)] dX4_startAnew_19 rfl (by decide) rfl ?_
  refine v_sub [(0, .ref (bs + a0)), (2, .int (0 : Int32))] [1, 0] rfl ?_
  refine it2_O (V := fun x2 u' => VV X D bs u0 rmX4_startAnew 3 0 0 (MQ X.2.2.2.2.2.2.1 (uQv D bs u0 v) X.2.2.2.2.2.1 X.2.2.2.1 0 0 (uA bs u0)) u' 20 [(0, .ref (bs + a0)), (2, .int x2)] []) h (fun k_ hk_ => wX4_startAnew_B20 C hin hk_ ?_ )
  intro z9 h
  try dsimp only [Sum.elim_inl] at h
  exact v_vret C dX4_startAnew_42 (Option.some.inj h)
set_option maxRecDepth 100000 in
set_option maxHeartbeats 4000000 in
theorem mX4_init {l : Launch} {D : UD} {bs : Nat} {a0 : Nat} {u0 : UH} {v : UH} (h : fX4_init a0 u0 = some v) : Met l yX4_init (wz yX4_init cX4_init 3 none) rmX4_init (va_Pc [.ref (bs + a0)] (uIn D bs u0)) (uQv D bs u0 v) 15 86 (uA bs u0) := by
  refine uMet (by decide) (Nat.le_of_ble_eq_true rfl) ?_
  intro X tw hX C hin
  have C : uCx X D bs tw cX4_init 3 RX4 none := C
  have hin : X.2.2.2.2.2.2.2.1.name = "<init>" := hin
  refine v_L [(0, .ref (bs + a0))] rfl ?_
  unfold fX4_init at h
  refine v_aload_n C 0 dX4_init_0 rfl rfl ?_
  refine v_objInit C tw30 tw23 tw24 (Nat.le_of_ble_eq_true rfl) (Nat.le_of_ble_eq_true rfl) dX4_init_1 ?_
  refine v_aload_n C 0 dX4_init_4 rfl rfl ?_
  refine v_bipush C (24 : Int32) dX4_init_5 (by decide) ?_
  refine v_newaP C (atype := .int) 20 24 rfl tw89 (Or.inr ⟨by decide, by decide, rfl⟩) (by decide) (fun t h cA hc => by obtain ⟨_, _, rfl⟩ := h; exact hc) (by decide) (by decide) (Nat.le_of_ble_eq_true rfl) (Nat.le_of_ble_eq_true rfl) (Nat.le_of_ble_eq_true rfl) dX4_init_7 h (fun b1 u2 h => ?_)
  refine v_putR C fdX4_9 (fun _ => rfl) (fun _ => rfl) (fun _ => hin) dX4_init_9 h (fun u3 h => ?_)
  refine v_aload_n C 0 dX4_init_12 rfl rfl ?_
  refine v_bipush C (6 : Int32) dX4_init_13 (by decide) ?_
  refine v_anew C 26 6 rfl (by decide) tw31 tw32 (by decide) (by decide) (Nat.le_of_ble_eq_true rfl) (Nat.le_of_ble_eq_true rfl) (Nat.le_of_ble_eq_true rfl) dX4_init_15 h (fun b4 u5 h => ?_)
  refine v_putR C fdX4_17 (fun _ => rfl) (fun _ => rfl) (fun _ => hin) dX4_init_18 h (fun u6 h => ?_)
  refine v_new C cdX4_21 (Nat.le_of_ble_eq_true rfl) (Nat.le_of_ble_eq_true rfl) dX4_init_21 h (fun b7 u8 h => ?_)
  refine v_dup C dX4_init_24 rfl ?_
  refine v_iconst C (0 : Int32) dX4_init_25 (by decide) ?_
  refine v_iconst C (0 : Int32) dX4_init_26 (by decide) ?_
  refine v_iconst C (0 : Int32) dX4_init_27 (by decide) ?_
  refine v_iconst C (0 : Int32) dX4_init_28 (by decide) ?_
  refine v_iconst C (0 : Int32) dX4_init_29 (by decide) ?_
  refine v_iconst C (0 : Int32) dX4_init_30 (by decide) ?_
  refine v_iconst C (0 : Int32) dX4_init_31 (by decide) ?_
  obtain ⟨u9, h1, h⟩ := ob_some h
  refine v_gov (rn_I C gcX4_23 (mX6_init h1) ⟨rfl, rfl⟩ rfl ⟨Nat.le_of_ble_eq_true rfl, Nat.le_of_ble_eq_true rfl⟩ (rest := [.ref (bs + b7)]) rfl (Nat.le_of_ble_eq_true rfl) ⟨Nat.le_of_ble_eq_true rfl, Nat.le_of_ble_eq_true rfl⟩ dX4_init_32) ?_
  refine v_astore_n C [(1, .ref (bs + b7)), (0, .ref (bs + a0))] dX4_init_35 rfl (by decide) rfl ?_
  refine v_iconst C (0 : Int32) dX4_init_36 (by decide) ?_
  refine v_istore_n C [(2, .int (0 : Int32)), (1, .ref (bs + b7)), (0, .ref (bs + a0))] dX4_init_37 rfl (by decide) rfl ?_
  refine v_iload_n C 0 dX4_init_38 rfl rfl ?_
  refine v_bipush C (6 : Int32) dX4_init_39 (by decide) ?_
  refine v_icmpge_f C 64 dX4_init_41 (by decide) (by decide) ?_
  refine v_aload_n C 2 dX4_init_44 rfl rfl ?_
  refine v_getR C fdX4_17 dX4_init_45 h (fun b10 h => ?_)
  refine v_iload_n C 0 dX4_init_48 rfl rfl ?_
  refine v_new C cdX4_15 (Nat.le_of_ble_eq_true rfl) (Nat.le_of_ble_eq_true rfl) dX4_init_49 h (fun b11 u12 h => ?_)
  refine v_dup C dX4_init_52 rfl ?_
  refine v_aload_n C 1 dX4_init_53 rfl rfl ?_
  obtain ⟨u13, h1, h⟩ := ob_some h
  refine v_gov (rn_I C gcX4_26 (mX7_init h1) ⟨rfl, rfl⟩ rfl ⟨Nat.le_of_ble_eq_true rfl, Nat.le_of_ble_eq_true rfl⟩ (rest := [.ref (bs + b11), .int (0 : Int32), .ref (bs + b10)]) rfl (Nat.le_of_ble_eq_true rfl) ⟨Nat.le_of_ble_eq_true rfl, Nat.le_of_ble_eq_true rfl⟩ dX4_init_54) ?_
  refine v_stR C 26 7 (RX7, TX7, 2) rfl rfl (by decide) (by decide) dX4_init_57 h (fun u14 h => ?_)
  refine v_iinc C 0 (1 : Int32) [(2, .int (1 : Int32)), (1, .ref (bs + b7)), (0, .ref (bs + a0))] dX4_init_58 rfl (by decide) (by decide) rfl ?_
  refine v_goto C 38 dX4_init_61 (by decide) ?_
  refine v_iload_n C 0 dX4_init_38 rfl rfl ?_
  refine v_bipush C (6 : Int32) dX4_init_39 (by decide) ?_
  refine v_icmpge_f C 64 dX4_init_41 (by decide) (by decide) ?_
  refine v_aload_n C 2 dX4_init_44 rfl rfl ?_
  refine v_getR C fdX4_17 dX4_init_45 h (fun b15 h => ?_)
  refine v_iload_n C 0 dX4_init_48 rfl rfl ?_
  refine v_new C cdX4_15 (Nat.le_of_ble_eq_true rfl) (Nat.le_of_ble_eq_true rfl) dX4_init_49 h (fun b16 u17 h => ?_)
  refine v_dup C dX4_init_52 rfl ?_
  refine v_aload_n C 1 dX4_init_53 rfl rfl ?_
  obtain ⟨u18, h1, h⟩ := ob_some h
  refine v_gov (rn_I C gcX4_26 (mX7_init h1) ⟨rfl, rfl⟩ rfl ⟨Nat.le_of_ble_eq_true rfl, Nat.le_of_ble_eq_true rfl⟩ (rest := [.ref (bs + b16), .int (1 : Int32), .ref (bs + b15)]) rfl (Nat.le_of_ble_eq_true rfl) ⟨Nat.le_of_ble_eq_true rfl, Nat.le_of_ble_eq_true rfl⟩ dX4_init_54) ?_
  refine v_stR C 26 7 (RX7, TX7, 2) rfl rfl (by decide) (by decide) dX4_init_57 h (fun u19 h => ?_)
  refine v_iinc C 0 (2 : Int32) [(2, .int (2 : Int32)), (1, .ref (bs + b7)), (0, .ref (bs + a0))] dX4_init_58 rfl (by decide) (by decide) rfl ?_
  refine v_goto C 38 dX4_init_61 (by decide) ?_
  refine v_iload_n C 0 dX4_init_38 rfl rfl ?_
  refine v_bipush C (6 : Int32) dX4_init_39 (by decide) ?_
  refine v_icmpge_f C 64 dX4_init_41 (by decide) (by decide) ?_
  refine v_aload_n C 2 dX4_init_44 rfl rfl ?_
  refine v_getR C fdX4_17 dX4_init_45 h (fun b20 h => ?_)
  refine v_iload_n C 0 dX4_init_48 rfl rfl ?_
  refine v_new C cdX4_15 (Nat.le_of_ble_eq_true rfl) (Nat.le_of_ble_eq_true rfl) dX4_init_49 h (fun b21 u22 h => ?_)
  refine v_dup C dX4_init_52 rfl ?_
  refine v_aload_n C 1 dX4_init_53 rfl rfl ?_
  obtain ⟨u23, h1, h⟩ := ob_some h
  refine v_gov (rn_I C gcX4_26 (mX7_init h1) ⟨rfl, rfl⟩ rfl ⟨Nat.le_of_ble_eq_true rfl, Nat.le_of_ble_eq_true rfl⟩ (rest := [.ref (bs + b21), .int (2 : Int32), .ref (bs + b20)]) rfl (Nat.le_of_ble_eq_true rfl) ⟨Nat.le_of_ble_eq_true rfl, Nat.le_of_ble_eq_true rfl⟩ dX4_init_54) ?_
  refine v_stR C 26 7 (RX7, TX7, 2) rfl rfl (by decide) (by decide) dX4_init_57 h (fun u24 h => ?_)
  refine v_iinc C 0 (3 : Int32) [(2, .int (3 : Int32)), (1, .ref (bs + b7)), (0, .ref (bs + a0))] dX4_init_58 rfl (by decide) (by decide) rfl ?_
  refine v_goto C 38 dX4_init_61 (by decide) ?_
  refine v_iload_n C 0 dX4_init_38 rfl rfl ?_
  refine v_bipush C (6 : Int32) dX4_init_39 (by decide) ?_
  refine v_icmpge_f C 64 dX4_init_41 (by decide) (by decide) ?_
  refine v_aload_n C 2 dX4_init_44 rfl rfl ?_
  refine v_getR C fdX4_17 dX4_init_45 h (fun b25 h => ?_)
  refine v_iload_n C 0 dX4_init_48 rfl rfl ?_
  refine v_new C cdX4_15 (Nat.le_of_ble_eq_true rfl) (Nat.le_of_ble_eq_true rfl) dX4_init_49 h (fun b26 u27 h => ?_)
  refine v_dup C dX4_init_52 rfl ?_
  refine v_aload_n C 1 dX4_init_53 rfl rfl ?_
  obtain ⟨u28, h1, h⟩ := ob_some h
  refine v_gov (rn_I C gcX4_26 (mX7_init h1) ⟨rfl, rfl⟩ rfl ⟨Nat.le_of_ble_eq_true rfl, Nat.le_of_ble_eq_true rfl⟩ (rest := [.ref (bs + b26), .int (3 : Int32), .ref (bs + b25)]) rfl (Nat.le_of_ble_eq_true rfl) ⟨Nat.le_of_ble_eq_true rfl, Nat.le_of_ble_eq_true rfl⟩ dX4_init_54) ?_
  refine v_stR C 26 7 (RX7, TX7, 2) rfl rfl (by decide) (by decide) dX4_init_57 h (fun u29 h => ?_)
  refine v_iinc C 0 (4 : Int32) [(2, .int (4 : Int32)), (1, .ref (bs + b7)), (0, .ref (bs + a0))] dX4_init_58 rfl (by decide) (by decide) rfl ?_
  refine v_goto C 38 dX4_init_61 (by decide) ?_
  refine v_iload_n C 0 dX4_init_38 rfl rfl ?_
  refine v_bipush C (6 : Int32) dX4_init_39 (by decide) ?_
  refine v_icmpge_f C 64 dX4_init_41 (by decide) (by decide) ?_
  refine v_aload_n C 2 dX4_init_44 rfl rfl ?_
  refine v_getR C fdX4_17 dX4_init_45 h (fun b30 h => ?_)
  refine v_iload_n C 0 dX4_init_48 rfl rfl ?_
  refine v_new C cdX4_15 (Nat.le_of_ble_eq_true rfl) (Nat.le_of_ble_eq_true rfl) dX4_init_49 h (fun b31 u32 h => ?_)
  refine v_dup C dX4_init_52 rfl ?_
  refine v_aload_n C 1 dX4_init_53 rfl rfl ?_
  obtain ⟨u33, h1, h⟩ := ob_some h
  refine v_gov (rn_I C gcX4_26 (mX7_init h1) ⟨rfl, rfl⟩ rfl ⟨Nat.le_of_ble_eq_true rfl, Nat.le_of_ble_eq_true rfl⟩ (rest := [.ref (bs + b31), .int (4 : Int32), .ref (bs + b30)]) rfl (Nat.le_of_ble_eq_true rfl) ⟨Nat.le_of_ble_eq_true rfl, Nat.le_of_ble_eq_true rfl⟩ dX4_init_54) ?_
  refine v_stR C 26 7 (RX7, TX7, 2) rfl rfl (by decide) (by decide) dX4_init_57 h (fun u34 h => ?_)
  refine v_iinc C 0 (5 : Int32) [(2, .int (5 : Int32)), (1, .ref (bs + b7)), (0, .ref (bs + a0))] dX4_init_58 rfl (by decide) (by decide) rfl ?_
  refine v_goto C 38 dX4_init_61 (by decide) ?_
  refine v_iload_n C 0 dX4_init_38 rfl rfl ?_
  refine v_bipush C (6 : Int32) dX4_init_39 (by decide) ?_
  refine v_icmpge_f C 64 dX4_init_41 (by decide) (by decide) ?_
  refine v_aload_n C 2 dX4_init_44 rfl rfl ?_
  refine v_getR C fdX4_17 dX4_init_45 h (fun b35 h => ?_)
  refine v_iload_n C 0 dX4_init_48 rfl rfl ?_
  refine v_new C cdX4_15 (Nat.le_of_ble_eq_true rfl) (Nat.le_of_ble_eq_true rfl) dX4_init_49 h (fun b36 u37 h => ?_)
  refine v_dup C dX4_init_52 rfl ?_
  refine v_aload_n C 1 dX4_init_53 rfl rfl ?_
  obtain ⟨u38, h1, h⟩ := ob_some h
  refine v_gov (rn_I C gcX4_26 (mX7_init h1) ⟨rfl, rfl⟩ rfl ⟨Nat.le_of_ble_eq_true rfl, Nat.le_of_ble_eq_true rfl⟩ (rest := [.ref (bs + b36), .int (5 : Int32), .ref (bs + b35)]) rfl (Nat.le_of_ble_eq_true rfl) ⟨Nat.le_of_ble_eq_true rfl, Nat.le_of_ble_eq_true rfl⟩ dX4_init_54) ?_
  refine v_stR C 26 7 (RX7, TX7, 2) rfl rfl (by decide) (by decide) dX4_init_57 h (fun u39 h => ?_)
  refine v_iinc C 0 (6 : Int32) [(2, .int (6 : Int32)), (1, .ref (bs + b7)), (0, .ref (bs + a0))] dX4_init_58 rfl (by decide) (by decide) rfl ?_
  refine v_goto C 38 dX4_init_61 (by decide) ?_
  refine v_iload_n C 0 dX4_init_38 rfl rfl ?_
  refine v_bipush C (6 : Int32) dX4_init_39 (by decide) ?_
  refine v_icmpge_t C 64 dX4_init_41 (by decide) (by decide) ?_
  refine v_aload_n C 2 dX4_init_64 rfl rfl ?_
  refine v_iconst C (4 : Int32) dX4_init_65 (by decide) ?_
  obtain ⟨u40, h1, h⟩ := ob_some h
  obtain ⟨hkd, h1⟩ := kd_some h1
  refine v_gov (rn_V C gcX4_29 (RX4, TX4, 4) rfl rfl (by decide) hkd (mX4_startAnew h1) ⟨rfl, rfl⟩ rfl ⟨Nat.le_of_ble_eq_true rfl, Nat.le_of_ble_eq_true rfl⟩ (rest := []) rfl (Nat.le_of_ble_eq_true rfl) ⟨Nat.le_of_ble_eq_true rfl, Nat.le_of_ble_eq_true rfl⟩ dX4_init_66) ?_
  exact v_vret C dX4_init_69 (Option.some.inj h)
set_option maxRecDepth 100000 in
set_option maxHeartbeats 4000000 in
theorem mX3_init {l : Launch} {D : UD} {bs : Nat} {a0 : Nat} {u0 : UH} {v : UH} (h : fX3_init a0 u0 = some v) : Met l yX3_init (wz yX3_init cX3_init 3 none) rmX3_init (va_Pc [.ref (bs + a0)] (uIn D bs u0)) (uQv D bs u0 v) 27 128 (uA bs u0) := by
  refine uMet (by decide) (Nat.le_of_ble_eq_true rfl) ?_
  intro X tw hX C hin
  have C : uCx X D bs tw cX3_init 3 RX3 none := C
  have hin : X.2.2.2.2.2.2.2.1.name = "<init>" := hin
  refine v_L [(0, .ref (bs + a0))] rfl ?_
  unfold fX3_init at h
  refine v_aload_n C 0 dX3_init_0 rfl rfl ?_
  refine v_objInit C tw151 tw23 tw24 (Nat.le_of_ble_eq_true rfl) (Nat.le_of_ble_eq_true rfl) dX3_init_1 ?_
  refine v_aload_n C 0 dX3_init_4 rfl rfl ?_
  refine v_bipush C (12 : Int32) dX3_init_5 (by decide) ?_
  refine v_anew C 26 12 rfl (by decide) tw152 tw32 (by decide) (by decide) (Nat.le_of_ble_eq_true rfl) (Nat.le_of_ble_eq_true rfl) (Nat.le_of_ble_eq_true rfl) dX3_init_7 h (fun b1 u2 h => ?_)
  refine v_putR C fdX3_11 (fun _ => rfl) (fun _ => rfl) (fun _ => hin) dX3_init_10 h (fun u3 h => ?_)
  refine v_aload_n C 0 dX3_init_13 rfl rfl ?_
  refine v_bipush C (12 : Int32) dX3_init_14 (by decide) ?_
  refine v_newaP C (atype := .int) 20 12 rfl tw89 (Or.inr ⟨by decide, by decide, rfl⟩) (by decide) (fun t h cA hc => by obtain ⟨_, _, rfl⟩ := h; exact hc) (by decide) (by decide) (Nat.le_of_ble_eq_true rfl) (Nat.le_of_ble_eq_true rfl) (Nat.le_of_ble_eq_true rfl) dX3_init_16 h (fun b4 u5 h => ?_)
  refine v_putR C fdX3_17 (fun _ => rfl) (fun _ => rfl) (fun _ => hin) dX3_init_18 h (fun u6 h => ?_)
  refine v_new C cdX3_21 (Nat.le_of_ble_eq_true rfl) (Nat.le_of_ble_eq_true rfl) dX3_init_21 h (fun b7 u8 h => ?_)
  refine v_dup C dX3_init_24 rfl ?_
  refine v_iconst C (0 : Int32) dX3_init_25 (by decide) ?_
  refine v_iconst C (0 : Int32) dX3_init_26 (by decide) ?_
  refine v_iconst C (0 : Int32) dX3_init_27 (by decide) ?_
  refine v_iconst C (0 : Int32) dX3_init_28 (by decide) ?_
  refine v_iconst C (0 : Int32) dX3_init_29 (by decide) ?_
  refine v_iconst C (0 : Int32) dX3_init_30 (by decide) ?_
  refine v_iconst C (0 : Int32) dX3_init_31 (by decide) ?_
  obtain ⟨u9, h1, h⟩ := ob_some h
  refine v_gov (rn_I C gcX3_23 (mX6_init h1) ⟨rfl, rfl⟩ rfl ⟨Nat.le_of_ble_eq_true rfl, Nat.le_of_ble_eq_true rfl⟩ (rest := [.ref (bs + b7)]) rfl (Nat.le_of_ble_eq_true rfl) ⟨Nat.le_of_ble_eq_true rfl, Nat.le_of_ble_eq_true rfl⟩ dX3_init_32) ?_
  refine v_astore_n C [(1, .ref (bs + b7)), (0, .ref (bs + a0))] dX3_init_35 rfl (by decide) rfl ?_
  refine v_iconst C (0 : Int32) dX3_init_36 (by decide) ?_
  refine v_istore_n C [(2, .int (0 : Int32)), (1, .ref (bs + b7)), (0, .ref (bs + a0))] dX3_init_37 rfl (by decide) rfl ?_
  refine v_iload_n C 0 dX3_init_38 rfl rfl ?_
  refine v_bipush C (12 : Int32) dX3_init_39 (by decide) ?_
  refine v_icmpge_f C 64 dX3_init_41 (by decide) (by decide) ?_
  refine v_aload_n C 2 dX3_init_44 rfl rfl ?_
  refine v_getR C fdX3_11 dX3_init_45 h (fun b10 h => ?_)
  refine v_iload_n C 0 dX3_init_48 rfl rfl ?_
  refine v_new C cdX3_9 (Nat.le_of_ble_eq_true rfl) (Nat.le_of_ble_eq_true rfl) dX3_init_49 h (fun b11 u12 h => ?_)
  refine v_dup C dX3_init_52 rfl ?_
  refine v_aload_n C 1 dX3_init_53 rfl rfl ?_
  obtain ⟨u13, h1, h⟩ := ob_some h
  refine v_gov (rn_I C gcX3_26 (mX7_init h1) ⟨rfl, rfl⟩ rfl ⟨Nat.le_of_ble_eq_true rfl, Nat.le_of_ble_eq_true rfl⟩ (rest := [.ref (bs + b11), .int (0 : Int32), .ref (bs + b10)]) rfl (Nat.le_of_ble_eq_true rfl) ⟨Nat.le_of_ble_eq_true rfl, Nat.le_of_ble_eq_true rfl⟩ dX3_init_54) ?_
  refine v_stR C 26 7 (RX7, TX7, 2) rfl rfl (by decide) (by decide) dX3_init_57 h (fun u14 h => ?_)
  refine v_iinc C 0 (1 : Int32) [(2, .int (1 : Int32)), (1, .ref (bs + b7)), (0, .ref (bs + a0))] dX3_init_58 rfl (by decide) (by decide) rfl ?_
  refine v_goto C 38 dX3_init_61 (by decide) ?_
  refine v_iload_n C 0 dX3_init_38 rfl rfl ?_
  refine v_bipush C (12 : Int32) dX3_init_39 (by decide) ?_
  refine v_icmpge_f C 64 dX3_init_41 (by decide) (by decide) ?_
  refine v_aload_n C 2 dX3_init_44 rfl rfl ?_
  refine v_getR C fdX3_11 dX3_init_45 h (fun b15 h => ?_)
  refine v_iload_n C 0 dX3_init_48 rfl rfl ?_
  refine v_new C cdX3_9 (Nat.le_of_ble_eq_true rfl) (Nat.le_of_ble_eq_true rfl) dX3_init_49 h (fun b16 u17 h => ?_)
  refine v_dup C dX3_init_52 rfl ?_
  refine v_aload_n C 1 dX3_init_53 rfl rfl ?_
  obtain ⟨u18, h1, h⟩ := ob_some h
  refine v_gov (rn_I C gcX3_26 (mX7_init h1) ⟨rfl, rfl⟩ rfl ⟨Nat.le_of_ble_eq_true rfl, Nat.le_of_ble_eq_true rfl⟩ (rest := [.ref (bs + b16), .int (1 : Int32), .ref (bs + b15)]) rfl (Nat.le_of_ble_eq_true rfl) ⟨Nat.le_of_ble_eq_true rfl, Nat.le_of_ble_eq_true rfl⟩ dX3_init_54) ?_
  refine v_stR C 26 7 (RX7, TX7, 2) rfl rfl (by decide) (by decide) dX3_init_57 h (fun u19 h => ?_)
  refine v_iinc C 0 (2 : Int32) [(2, .int (2 : Int32)), (1, .ref (bs + b7)), (0, .ref (bs + a0))] dX3_init_58 rfl (by decide) (by decide) rfl ?_
  refine v_goto C 38 dX3_init_61 (by decide) ?_
  refine v_iload_n C 0 dX3_init_38 rfl rfl ?_
  refine v_bipush C (12 : Int32) dX3_init_39 (by decide) ?_
  refine v_icmpge_f C 64 dX3_init_41 (by decide) (by decide) ?_
  refine v_aload_n C 2 dX3_init_44 rfl rfl ?_
  refine v_getR C fdX3_11 dX3_init_45 h (fun b20 h => ?_)
  refine v_iload_n C 0 dX3_init_48 rfl rfl ?_
  refine v_new C cdX3_9 (Nat.le_of_ble_eq_true rfl) (Nat.le_of_ble_eq_true rfl) dX3_init_49 h (fun b21 u22 h => ?_)
  refine v_dup C dX3_init_52 rfl ?_
  refine v_aload_n C 1 dX3_init_53 rfl rfl ?_
  obtain ⟨u23, h1, h⟩ := ob_some h
  refine v_gov (rn_I C gcX3_26 (mX7_init h1) ⟨rfl, rfl⟩ rfl ⟨Nat.le_of_ble_eq_true rfl, Nat.le_of_ble_eq_true rfl⟩ (rest := [.ref (bs + b21), .int (2 : Int32), .ref (bs + b20)]) rfl (Nat.le_of_ble_eq_true rfl) ⟨Nat.le_of_ble_eq_true rfl, Nat.le_of_ble_eq_true rfl⟩ dX3_init_54) ?_
  refine v_stR C 26 7 (RX7, TX7, 2) rfl rfl (by decide) (by decide) dX3_init_57 h (fun u24 h => ?_)
  refine v_iinc C 0 (3 : Int32) [(2, .int (3 : Int32)), (1, .ref (bs + b7)), (0, .ref (bs + a0))] dX3_init_58 rfl (by decide) (by decide) rfl ?_
  refine v_goto C 38 dX3_init_61 (by decide) ?_
  refine v_iload_n C 0 dX3_init_38 rfl rfl ?_
  refine v_bipush C (12 : Int32) dX3_init_39 (by decide) ?_
  refine v_icmpge_f C 64 dX3_init_41 (by decide) (by decide) ?_
  refine v_aload_n C 2 dX3_init_44 rfl rfl ?_
  refine v_getR C fdX3_11 dX3_init_45 h (fun b25 h => ?_)
  refine v_iload_n C 0 dX3_init_48 rfl rfl ?_
  refine v_new C cdX3_9 (Nat.le_of_ble_eq_true rfl) (Nat.le_of_ble_eq_true rfl) dX3_init_49 h (fun b26 u27 h => ?_)
  refine v_dup C dX3_init_52 rfl ?_
  refine v_aload_n C 1 dX3_init_53 rfl rfl ?_
  obtain ⟨u28, h1, h⟩ := ob_some h
  refine v_gov (rn_I C gcX3_26 (mX7_init h1) ⟨rfl, rfl⟩ rfl ⟨Nat.le_of_ble_eq_true rfl, Nat.le_of_ble_eq_true rfl⟩ (rest := [.ref (bs + b26), .int (3 : Int32), .ref (bs + b25)]) rfl (Nat.le_of_ble_eq_true rfl) ⟨Nat.le_of_ble_eq_true rfl, Nat.le_of_ble_eq_true rfl⟩ dX3_init_54) ?_
  refine v_stR C 26 7 (RX7, TX7, 2) rfl rfl (by decide) (by decide) dX3_init_57 h (fun u29 h => ?_)
  refine v_iinc C 0 (4 : Int32) [(2, .int (4 : Int32)), (1, .ref (bs + b7)), (0, .ref (bs + a0))] dX3_init_58 rfl (by decide) (by decide) rfl ?_
  refine v_goto C 38 dX3_init_61 (by decide) ?_
  refine v_iload_n C 0 dX3_init_38 rfl rfl ?_
  refine v_bipush C (12 : Int32) dX3_init_39 (by decide) ?_
  refine v_icmpge_f C 64 dX3_init_41 (by decide) (by decide) ?_
  refine v_aload_n C 2 dX3_init_44 rfl rfl ?_
  refine v_getR C fdX3_11 dX3_init_45 h (fun b30 h => ?_)
  refine v_iload_n C 0 dX3_init_48 rfl rfl ?_
  refine v_new C cdX3_9 (Nat.le_of_ble_eq_true rfl) (Nat.le_of_ble_eq_true rfl) dX3_init_49 h (fun b31 u32 h => ?_)
  refine v_dup C dX3_init_52 rfl ?_
  refine v_aload_n C 1 dX3_init_53 rfl rfl ?_
  obtain ⟨u33, h1, h⟩ := ob_some h
  refine v_gov (rn_I C gcX3_26 (mX7_init h1) ⟨rfl, rfl⟩ rfl ⟨Nat.le_of_ble_eq_true rfl, Nat.le_of_ble_eq_true rfl⟩ (rest := [.ref (bs + b31), .int (4 : Int32), .ref (bs + b30)]) rfl (Nat.le_of_ble_eq_true rfl) ⟨Nat.le_of_ble_eq_true rfl, Nat.le_of_ble_eq_true rfl⟩ dX3_init_54) ?_
  refine v_stR C 26 7 (RX7, TX7, 2) rfl rfl (by decide) (by decide) dX3_init_57 h (fun u34 h => ?_)
  refine v_iinc C 0 (5 : Int32) [(2, .int (5 : Int32)), (1, .ref (bs + b7)), (0, .ref (bs + a0))] dX3_init_58 rfl (by decide) (by decide) rfl ?_
  refine v_goto C 38 dX3_init_61 (by decide) ?_
  refine v_iload_n C 0 dX3_init_38 rfl rfl ?_
  refine v_bipush C (12 : Int32) dX3_init_39 (by decide) ?_
  refine v_icmpge_f C 64 dX3_init_41 (by decide) (by decide) ?_
  refine v_aload_n C 2 dX3_init_44 rfl rfl ?_
  refine v_getR C fdX3_11 dX3_init_45 h (fun b35 h => ?_)
  refine v_iload_n C 0 dX3_init_48 rfl rfl ?_
  refine v_new C cdX3_9 (Nat.le_of_ble_eq_true rfl) (Nat.le_of_ble_eq_true rfl) dX3_init_49 h (fun b36 u37 h => ?_)
  refine v_dup C dX3_init_52 rfl ?_
  refine v_aload_n C 1 dX3_init_53 rfl rfl ?_
  obtain ⟨u38, h1, h⟩ := ob_some h
  refine v_gov (rn_I C gcX3_26 (mX7_init h1) ⟨rfl, rfl⟩ rfl ⟨Nat.le_of_ble_eq_true rfl, Nat.le_of_ble_eq_true rfl⟩ (rest := [.ref (bs + b36), .int (5 : Int32), .ref (bs + b35)]) rfl (Nat.le_of_ble_eq_true rfl) ⟨Nat.le_of_ble_eq_true rfl, Nat.le_of_ble_eq_true rfl⟩ dX3_init_54) ?_
  refine v_stR C 26 7 (RX7, TX7, 2) rfl rfl (by decide) (by decide) dX3_init_57 h (fun u39 h => ?_)
  refine v_iinc C 0 (6 : Int32) [(2, .int (6 : Int32)), (1, .ref (bs + b7)), (0, .ref (bs + a0))] dX3_init_58 rfl (by decide) (by decide) rfl ?_
  refine v_goto C 38 dX3_init_61 (by decide) ?_
  refine v_iload_n C 0 dX3_init_38 rfl rfl ?_
  refine v_bipush C (12 : Int32) dX3_init_39 (by decide) ?_
  refine v_icmpge_f C 64 dX3_init_41 (by decide) (by decide) ?_
  refine v_aload_n C 2 dX3_init_44 rfl rfl ?_
  refine v_getR C fdX3_11 dX3_init_45 h (fun b40 h => ?_)
  refine v_iload_n C 0 dX3_init_48 rfl rfl ?_
  refine v_new C cdX3_9 (Nat.le_of_ble_eq_true rfl) (Nat.le_of_ble_eq_true rfl) dX3_init_49 h (fun b41 u42 h => ?_)
  refine v_dup C dX3_init_52 rfl ?_
  refine v_aload_n C 1 dX3_init_53 rfl rfl ?_
  obtain ⟨u43, h1, h⟩ := ob_some h
  refine v_gov (rn_I C gcX3_26 (mX7_init h1) ⟨rfl, rfl⟩ rfl ⟨Nat.le_of_ble_eq_true rfl, Nat.le_of_ble_eq_true rfl⟩ (rest := [.ref (bs + b41), .int (6 : Int32), .ref (bs + b40)]) rfl (Nat.le_of_ble_eq_true rfl) ⟨Nat.le_of_ble_eq_true rfl, Nat.le_of_ble_eq_true rfl⟩ dX3_init_54) ?_
  refine v_stR C 26 7 (RX7, TX7, 2) rfl rfl (by decide) (by decide) dX3_init_57 h (fun u44 h => ?_)
  refine v_iinc C 0 (7 : Int32) [(2, .int (7 : Int32)), (1, .ref (bs + b7)), (0, .ref (bs + a0))] dX3_init_58 rfl (by decide) (by decide) rfl ?_
  refine v_goto C 38 dX3_init_61 (by decide) ?_
  refine v_iload_n C 0 dX3_init_38 rfl rfl ?_
  refine v_bipush C (12 : Int32) dX3_init_39 (by decide) ?_
  refine v_icmpge_f C 64 dX3_init_41 (by decide) (by decide) ?_
  refine v_aload_n C 2 dX3_init_44 rfl rfl ?_
  refine v_getR C fdX3_11 dX3_init_45 h (fun b45 h => ?_)
  refine v_iload_n C 0 dX3_init_48 rfl rfl ?_
  refine v_new C cdX3_9 (Nat.le_of_ble_eq_true rfl) (Nat.le_of_ble_eq_true rfl) dX3_init_49 h (fun b46 u47 h => ?_)
  refine v_dup C dX3_init_52 rfl ?_
  refine v_aload_n C 1 dX3_init_53 rfl rfl ?_
  obtain ⟨u48, h1, h⟩ := ob_some h
  refine v_gov (rn_I C gcX3_26 (mX7_init h1) ⟨rfl, rfl⟩ rfl ⟨Nat.le_of_ble_eq_true rfl, Nat.le_of_ble_eq_true rfl⟩ (rest := [.ref (bs + b46), .int (7 : Int32), .ref (bs + b45)]) rfl (Nat.le_of_ble_eq_true rfl) ⟨Nat.le_of_ble_eq_true rfl, Nat.le_of_ble_eq_true rfl⟩ dX3_init_54) ?_
  refine v_stR C 26 7 (RX7, TX7, 2) rfl rfl (by decide) (by decide) dX3_init_57 h (fun u49 h => ?_)
  refine v_iinc C 0 (8 : Int32) [(2, .int (8 : Int32)), (1, .ref (bs + b7)), (0, .ref (bs + a0))] dX3_init_58 rfl (by decide) (by decide) rfl ?_
  refine v_goto C 38 dX3_init_61 (by decide) ?_
  refine v_iload_n C 0 dX3_init_38 rfl rfl ?_
  refine v_bipush C (12 : Int32) dX3_init_39 (by decide) ?_
  refine v_icmpge_f C 64 dX3_init_41 (by decide) (by decide) ?_
  refine v_aload_n C 2 dX3_init_44 rfl rfl ?_
  refine v_getR C fdX3_11 dX3_init_45 h (fun b50 h => ?_)
  refine v_iload_n C 0 dX3_init_48 rfl rfl ?_
  refine v_new C cdX3_9 (Nat.le_of_ble_eq_true rfl) (Nat.le_of_ble_eq_true rfl) dX3_init_49 h (fun b51 u52 h => ?_)
  refine v_dup C dX3_init_52 rfl ?_
  refine v_aload_n C 1 dX3_init_53 rfl rfl ?_
  obtain ⟨u53, h1, h⟩ := ob_some h
  refine v_gov (rn_I C gcX3_26 (mX7_init h1) ⟨rfl, rfl⟩ rfl ⟨Nat.le_of_ble_eq_true rfl, Nat.le_of_ble_eq_true rfl⟩ (rest := [.ref (bs + b51), .int (8 : Int32), .ref (bs + b50)]) rfl (Nat.le_of_ble_eq_true rfl) ⟨Nat.le_of_ble_eq_true rfl, Nat.le_of_ble_eq_true rfl⟩ dX3_init_54) ?_
  refine v_stR C 26 7 (RX7, TX7, 2) rfl rfl (by decide) (by decide) dX3_init_57 h (fun u54 h => ?_)
  refine v_iinc C 0 (9 : Int32) [(2, .int (9 : Int32)), (1, .ref (bs + b7)), (0, .ref (bs + a0))] dX3_init_58 rfl (by decide) (by decide) rfl ?_
  refine v_goto C 38 dX3_init_61 (by decide) ?_
  refine v_iload_n C 0 dX3_init_38 rfl rfl ?_
  refine v_bipush C (12 : Int32) dX3_init_39 (by decide) ?_
  refine v_icmpge_f C 64 dX3_init_41 (by decide) (by decide) ?_
  refine v_aload_n C 2 dX3_init_44 rfl rfl ?_
  refine v_getR C fdX3_11 dX3_init_45 h (fun b55 h => ?_)
  refine v_iload_n C 0 dX3_init_48 rfl rfl ?_
  refine v_new C cdX3_9 (Nat.le_of_ble_eq_true rfl) (Nat.le_of_ble_eq_true rfl) dX3_init_49 h (fun b56 u57 h => ?_)
  refine v_dup C dX3_init_52 rfl ?_
  refine v_aload_n C 1 dX3_init_53 rfl rfl ?_
  obtain ⟨u58, h1, h⟩ := ob_some h
  refine v_gov (rn_I C gcX3_26 (mX7_init h1) ⟨rfl, rfl⟩ rfl ⟨Nat.le_of_ble_eq_true rfl, Nat.le_of_ble_eq_true rfl⟩ (rest := [.ref (bs + b56), .int (9 : Int32), .ref (bs + b55)]) rfl (Nat.le_of_ble_eq_true rfl) ⟨Nat.le_of_ble_eq_true rfl, Nat.le_of_ble_eq_true rfl⟩ dX3_init_54) ?_
  refine v_stR C 26 7 (RX7, TX7, 2) rfl rfl (by decide) (by decide) dX3_init_57 h (fun u59 h => ?_)
  refine v_iinc C 0 (10 : Int32) [(2, .int (10 : Int32)), (1, .ref (bs + b7)), (0, .ref (bs + a0))] dX3_init_58 rfl (by decide) (by decide) rfl ?_
  refine v_goto C 38 dX3_init_61 (by decide) ?_
  refine v_iload_n C 0 dX3_init_38 rfl rfl ?_
  refine v_bipush C (12 : Int32) dX3_init_39 (by decide) ?_
  refine v_icmpge_f C 64 dX3_init_41 (by decide) (by decide) ?_
  refine v_aload_n C 2 dX3_init_44 rfl rfl ?_
  refine v_getR C fdX3_11 dX3_init_45 h (fun b60 h => ?_)
  refine v_iload_n C 0 dX3_init_48 rfl rfl ?_
  refine v_new C cdX3_9 (Nat.le_of_ble_eq_true rfl) (Nat.le_of_ble_eq_true rfl) dX3_init_49 h (fun b61 u62 h => ?_)
  refine v_dup C dX3_init_52 rfl ?_
  refine v_aload_n C 1 dX3_init_53 rfl rfl ?_
  obtain ⟨u63, h1, h⟩ := ob_some h
  refine v_gov (rn_I C gcX3_26 (mX7_init h1) ⟨rfl, rfl⟩ rfl ⟨Nat.le_of_ble_eq_true rfl, Nat.le_of_ble_eq_true rfl⟩ (rest := [.ref (bs + b61), .int (10 : Int32), .ref (bs + b60)]) rfl (Nat.le_of_ble_eq_true rfl) ⟨Nat.le_of_ble_eq_true rfl, Nat.le_of_ble_eq_true rfl⟩ dX3_init_54) ?_
  refine v_stR C 26 7 (RX7, TX7, 2) rfl rfl (by decide) (by decide) dX3_init_57 h (fun u64 h => ?_)
  refine v_iinc C 0 (11 : Int32) [(2, .int (11 : Int32)), (1, .ref (bs + b7)), (0, .ref (bs + a0))] dX3_init_58 rfl (by decide) (by decide) rfl ?_
  refine v_goto C 38 dX3_init_61 (by decide) ?_
  refine v_iload_n C 0 dX3_init_38 rfl rfl ?_
  refine v_bipush C (12 : Int32) dX3_init_39 (by decide) ?_
  refine v_icmpge_f C 64 dX3_init_41 (by decide) (by decide) ?_
  refine v_aload_n C 2 dX3_init_44 rfl rfl ?_
  refine v_getR C fdX3_11 dX3_init_45 h (fun b65 h => ?_)
  refine v_iload_n C 0 dX3_init_48 rfl rfl ?_
  refine v_new C cdX3_9 (Nat.le_of_ble_eq_true rfl) (Nat.le_of_ble_eq_true rfl) dX3_init_49 h (fun b66 u67 h => ?_)
  refine v_dup C dX3_init_52 rfl ?_
  refine v_aload_n C 1 dX3_init_53 rfl rfl ?_
  obtain ⟨u68, h1, h⟩ := ob_some h
  refine v_gov (rn_I C gcX3_26 (mX7_init h1) ⟨rfl, rfl⟩ rfl ⟨Nat.le_of_ble_eq_true rfl, Nat.le_of_ble_eq_true rfl⟩ (rest := [.ref (bs + b66), .int (11 : Int32), .ref (bs + b65)]) rfl (Nat.le_of_ble_eq_true rfl) ⟨Nat.le_of_ble_eq_true rfl, Nat.le_of_ble_eq_true rfl⟩ dX3_init_54) ?_
  refine v_stR C 26 7 (RX7, TX7, 2) rfl rfl (by decide) (by decide) dX3_init_57 h (fun u69 h => ?_)
  refine v_iinc C 0 (12 : Int32) [(2, .int (12 : Int32)), (1, .ref (bs + b7)), (0, .ref (bs + a0))] dX3_init_58 rfl (by decide) (by decide) rfl ?_
  refine v_goto C 38 dX3_init_61 (by decide) ?_
  refine v_iload_n C 0 dX3_init_38 rfl rfl ?_
  refine v_bipush C (12 : Int32) dX3_init_39 (by decide) ?_
  refine v_icmpge_t C 64 dX3_init_41 (by decide) (by decide) ?_
  exact v_vret C dX3_init_64 (Option.some.inj h)
set_option maxRecDepth 100000 in
set_option maxHeartbeats 4000000 in
theorem mX2_init {l : Launch} {D : UD} {bs : Nat} {a0 : Nat} {a1 : Nat} {u0 : UH} {v : UH} (h : fX2_init a0 a1 u0 = some v) : Met l yX2_init (wz yX2_init cX2_init 2 none) rmX2_init (va_Pc [.ref (bs + a0), .ref (bs + a1)] (uIn D bs u0)) (uQv D bs u0 v) 3 72 (uA bs u0) := by
  refine uMet (by decide) (Nat.le_of_ble_eq_true rfl) ?_
  intro X tw hX C hin
  have C : uCx X D bs tw cX2_init 2 RX2 none := C
  have hin : X.2.2.2.2.2.2.2.1.name = "<init>" := hin
  refine v_L [(0, .ref (bs + a0)), (1, .ref (bs + a1))] rfl ?_
  unfold fX2_init at h
  refine v_aload_n C 0 dX2_init_0 rfl rfl ?_
  refine v_objInit C tw175 tw23 tw24 (Nat.le_of_ble_eq_true rfl) (Nat.le_of_ble_eq_true rfl) dX2_init_1 ?_
  refine v_aload_n C 0 dX2_init_4 rfl rfl ?_
  refine v_bipush C (24 : Int32) dX2_init_5 (by decide) ?_
  refine v_newaP C (atype := .long) 21 24 rfl tw190 (Or.inl ⟨rfl, rfl⟩) (by decide) (fun t h cA hc => by obtain ⟨_, _, rfl⟩ := h; exact hc) (by decide) (by decide) (Nat.le_of_ble_eq_true rfl) (Nat.le_of_ble_eq_true rfl) (Nat.le_of_ble_eq_true rfl) dX2_init_7 h (fun b1 u2 h => ?_)
  refine v_putR C fdX2_9 (fun _ => rfl) (fun _ => rfl) (fun _ => hin) dX2_init_9 h (fun u3 h => ?_)
  refine v_aload_n C 0 dX2_init_12 rfl rfl ?_
  refine v_bipush C (24 : Int32) dX2_init_13 (by decide) ?_
  refine v_newaP C (atype := .long) 21 24 rfl tw190 (Or.inl ⟨rfl, rfl⟩) (by decide) (fun t h cA hc => by obtain ⟨_, _, rfl⟩ := h; exact hc) (by decide) (by decide) (Nat.le_of_ble_eq_true rfl) (Nat.le_of_ble_eq_true rfl) (Nat.le_of_ble_eq_true rfl) dX2_init_15 h (fun b4 u5 h => ?_)
  refine v_putR C fdX2_15 (fun _ => rfl) (fun _ => rfl) (fun _ => hin) dX2_init_17 h (fun u6 h => ?_)
  refine v_aload_n C 0 dX2_init_20 rfl rfl ?_
  refine v_bipush C (24 : Int32) dX2_init_21 (by decide) ?_
  refine v_newaP C (atype := .long) 21 24 rfl tw190 (Or.inl ⟨rfl, rfl⟩) (by decide) (fun t h cA hc => by obtain ⟨_, _, rfl⟩ := h; exact hc) (by decide) (by decide) (Nat.le_of_ble_eq_true rfl) (Nat.le_of_ble_eq_true rfl) (Nat.le_of_ble_eq_true rfl) dX2_init_23 h (fun b7 u8 h => ?_)
  refine v_putR C fdX2_18 (fun _ => rfl) (fun _ => rfl) (fun _ => hin) dX2_init_25 h (fun u9 h => ?_)
  refine v_aload_n C 0 dX2_init_28 rfl rfl ?_
  refine v_aload_n C 1 dX2_init_29 rfl rfl ?_
  refine v_putR C fdX2_21 (fun _ => rfl) (fun _ => rfl) (fun _ => hin) dX2_init_30 h (fun u10 h => ?_)
  exact v_vret C dX2_init_33 (Option.some.inj h)
set_option maxRecDepth 100000 in
set_option maxHeartbeats 4000000 in
theorem mX1_init {l : Launch} {D : UD} {bs : Nat} {a0 : Nat} {a1 : Nat} {u0 : UH} {v : UH} (h : fX1_init a0 a1 u0 = some v) : Met l yX1_init (wz yX1_init cX1_init 2 none) rmX1_init (va_Pc [.ref (bs + a0), .ref (bs + a1)] (uIn D bs u0)) (uQv D bs u0 v) 1 24 (uA bs u0) := by
  refine uMet (by decide) (Nat.le_of_ble_eq_true rfl) ?_
  intro X tw hX C hin
  have C : uCx X D bs tw cX1_init 2 RX1 none := C
  have hin : X.2.2.2.2.2.2.2.1.name = "<init>" := hin
  refine v_L [(0, .ref (bs + a0)), (1, .ref (bs + a1))] rfl ?_
  unfold fX1_init at h
  refine v_aload_n C 0 dX1_init_0 rfl rfl ?_
  refine v_objInit C tw196 tw23 tw24 (Nat.le_of_ble_eq_true rfl) (Nat.le_of_ble_eq_true rfl) dX1_init_1 ?_
  refine v_aload_n C 0 dX1_init_4 rfl rfl ?_
  refine v_bipush C (24 : Int32) dX1_init_5 (by decide) ?_
  refine v_newaP C (atype := .long) 21 24 rfl tw190 (Or.inl ⟨rfl, rfl⟩) (by decide) (fun t h cA hc => by obtain ⟨_, _, rfl⟩ := h; exact hc) (by decide) (by decide) (Nat.le_of_ble_eq_true rfl) (Nat.le_of_ble_eq_true rfl) (Nat.le_of_ble_eq_true rfl) dX1_init_7 h (fun b1 u2 h => ?_)
  refine v_putR C fdX1_9 (fun _ => rfl) (fun _ => rfl) (fun _ => hin) dX1_init_9 h (fun u3 h => ?_)
  refine v_aload_n C 0 dX1_init_12 rfl rfl ?_
  refine v_aload_n C 1 dX1_init_13 rfl rfl ?_
  refine v_putR C fdX1_15 (fun _ => rfl) (fun _ => rfl) (fun _ => hin) dX1_init_14 h (fun u4 h => ?_)
  exact v_vret C dX1_init_17 (Option.some.inj h)
set_option maxRecDepth 100000 in
set_option maxHeartbeats 4000000 in
theorem mX10_init {l : Launch} {D : UD} {bs : Nat} {a0 : Nat} {a1 : Nat} {u0 : UH} {v : UH} (h : fX10_init a0 a1 u0 = some v) : Met l yX10_init (wz yX10_init cX10_init 2 none) rmX10_init (va_Pc [.ref (bs + a0), .ref (bs + a1)] (uIn D bs u0)) (uQv D bs u0 v) 1 24 (uA bs u0) := by
  refine uMet (by decide) (Nat.le_of_ble_eq_true rfl) ?_
  intro X tw hX C hin
  have C : uCx X D bs tw cX10_init 2 RX10 none := C
  have hin : X.2.2.2.2.2.2.2.1.name = "<init>" := hin
  refine v_L [(0, .ref (bs + a0)), (1, .ref (bs + a1))] rfl ?_
  unfold fX10_init at h
  refine v_aload_n C 0 dX10_init_0 rfl rfl ?_
  refine v_objInit C tw210 tw23 tw24 (Nat.le_of_ble_eq_true rfl) (Nat.le_of_ble_eq_true rfl) dX10_init_1 ?_
  refine v_aload_n C 0 dX10_init_4 rfl rfl ?_
  refine v_bipush C (24 : Int32) dX10_init_5 (by decide) ?_
  refine v_newaP C (atype := .long) 21 24 rfl tw190 (Or.inl ⟨rfl, rfl⟩) (by decide) (fun t h cA hc => by obtain ⟨_, _, rfl⟩ := h; exact hc) (by decide) (by decide) (Nat.le_of_ble_eq_true rfl) (Nat.le_of_ble_eq_true rfl) (Nat.le_of_ble_eq_true rfl) dX10_init_7 h (fun b1 u2 h => ?_)
  refine v_putR C fdX10_9 (fun _ => rfl) (fun _ => rfl) (fun _ => hin) dX10_init_9 h (fun u3 h => ?_)
  refine v_aload_n C 0 dX10_init_12 rfl rfl ?_
  refine v_aload_n C 1 dX10_init_13 rfl rfl ?_
  refine v_putR C fdX10_15 (fun _ => rfl) (fun _ => rfl) (fun _ => hin) dX10_init_14 h (fun u4 h => ?_)
  exact v_vret C dX10_init_17 (Option.some.inj h)
set_option maxRecDepth 100000 in
set_option maxHeartbeats 4000000 in
theorem mX0_init {l : Launch} {D : UD} {bs : Nat} {a0 : Nat} {a1 : Nat} {u0 : UH} {v : UH} (h : fX0_init a0 a1 u0 = some v) : Met l yX0_init (wz yX0_init cX0_init 2 none) rmX0_init (va_Pc [.ref (bs + a0), .ref (bs + a1)] (uIn D bs u0)) (uQv D bs u0 v) 6 2895 (uA bs u0) := by
  refine uMet (by decide) (Nat.le_of_ble_eq_true rfl) ?_
  intro X tw hX C hin
  have C : uCx X D bs tw cX0_init 2 RX0 none := C
  have hin : X.2.2.2.2.2.2.2.1.name = "<init>" := hin
  refine v_L [(0, .ref (bs + a0)), (1, .ref (bs + a1))] rfl ?_
  unfold fX0_init at h
  refine v_aload_n C 0 dX0_init_0 rfl rfl ?_
  refine v_objInit C tw235 tw23 tw24 (Nat.le_of_ble_eq_true rfl) (Nat.le_of_ble_eq_true rfl) dX0_init_1 ?_
  refine v_aload_n C 0 dX0_init_4 rfl rfl ?_
  refine v_iconst C (3 : Int32) dX0_init_5 (by decide) ?_
  refine v_newaP C (atype := .int) 20 3 rfl tw89 (Or.inr ⟨by decide, by decide, rfl⟩) (by decide) (fun t h cA hc => by obtain ⟨_, _, rfl⟩ := h; exact hc) (by decide) (by decide) (Nat.le_of_ble_eq_true rfl) (Nat.le_of_ble_eq_true rfl) (Nat.le_of_ble_eq_true rfl) dX0_init_6 h (fun b1 u2 h => ?_)
  refine v_putR C fdX0_9 (fun _ => rfl) (fun _ => rfl) (fun _ => hin) dX0_init_8 h (fun u3 h => ?_)
  refine v_aload_n C 0 dX0_init_11 rfl rfl ?_
  refine v_bipush C (36 : Int32) dX0_init_12 (by decide) ?_
  refine v_newaP C (atype := .long) 21 36 rfl tw190 (Or.inl ⟨rfl, rfl⟩) (by decide) (fun t h cA hc => by obtain ⟨_, _, rfl⟩ := h; exact hc) (by decide) (by decide) (Nat.le_of_ble_eq_true rfl) (Nat.le_of_ble_eq_true rfl) (Nat.le_of_ble_eq_true rfl) dX0_init_14 h (fun b4 u5 h => ?_)
  refine v_putR C fdX0_15 (fun _ => rfl) (fun _ => rfl) (fun _ => hin) dX0_init_16 h (fun u6 h => ?_)
  refine v_aload_n C 0 dX0_init_19 rfl rfl ?_
  refine v_sipush C (1296 : Int32) dX0_init_20 (by decide) ?_
  refine v_newaP C (atype := .long) 21 1296 rfl tw190 (Or.inl ⟨rfl, rfl⟩) (by decide) (fun t h cA hc => by obtain ⟨_, _, rfl⟩ := h; exact hc) (by decide) (by decide) (Nat.le_of_ble_eq_true rfl) (Nat.le_of_ble_eq_true rfl) (Nat.le_of_ble_eq_true rfl) dX0_init_23 h (fun b7 u8 h => ?_)
  refine v_putR C fdX0_19 (fun _ => rfl) (fun _ => rfl) (fun _ => hin) dX0_init_25 h (fun u9 h => ?_)
  refine v_aload_n C 0 dX0_init_28 rfl rfl ?_
  refine v_sipush C (768 : Int32) dX0_init_29 (by decide) ?_
  refine v_newaP C (atype := .int) 20 768 rfl tw89 (Or.inr ⟨by decide, by decide, rfl⟩) (by decide) (fun t h cA hc => by obtain ⟨_, _, rfl⟩ := h; exact hc) (by decide) (by decide) (Nat.le_of_ble_eq_true rfl) (Nat.le_of_ble_eq_true rfl) (Nat.le_of_ble_eq_true rfl) dX0_init_32 h (fun b10 u11 h => ?_)
  refine v_putR C fdX0_22 (fun _ => rfl) (fun _ => rfl) (fun _ => hin) dX0_init_34 h (fun u12 h => ?_)
  refine v_aload_n C 0 dX0_init_37 rfl rfl ?_
  refine v_sipush C (768 : Int32) dX0_init_38 (by decide) ?_
  refine v_newaP C (atype := .long) 21 768 rfl tw190 (Or.inl ⟨rfl, rfl⟩) (by decide) (fun t h cA hc => by obtain ⟨_, _, rfl⟩ := h; exact hc) (by decide) (by decide) (Nat.le_of_ble_eq_true rfl) (Nat.le_of_ble_eq_true rfl) (Nat.le_of_ble_eq_true rfl) dX0_init_41 h (fun b13 u14 h => ?_)
  refine v_putR C fdX0_25 (fun _ => rfl) (fun _ => rfl) (fun _ => hin) dX0_init_43 h (fun u15 h => ?_)
  refine v_aload_n C 0 dX0_init_46 rfl rfl ?_
  refine v_bipush C (24 : Int32) dX0_init_47 (by decide) ?_
  refine v_newaP C (atype := .long) 21 24 rfl tw190 (Or.inl ⟨rfl, rfl⟩) (by decide) (fun t h cA hc => by obtain ⟨_, _, rfl⟩ := h; exact hc) (by decide) (by decide) (Nat.le_of_ble_eq_true rfl) (Nat.le_of_ble_eq_true rfl) (Nat.le_of_ble_eq_true rfl) dX0_init_49 h (fun b16 u17 h => ?_)
  refine v_putR C fdX0_28 (fun _ => rfl) (fun _ => rfl) (fun _ => hin) dX0_init_51 h (fun u18 h => ?_)
  refine v_aload_n C 0 dX0_init_54 rfl rfl ?_
  refine v_aload_n C 1 dX0_init_55 rfl rfl ?_
  refine v_putR C fdX0_31 (fun _ => rfl) (fun _ => rfl) (fun _ => hin) dX0_init_56 h (fun u19 h => ?_)
  exact v_vret C dX0_init_59 (Option.some.inj h)
set_option maxRecDepth 100000 in
set_option maxHeartbeats 4000000 in
theorem mX9_init {l : Launch} {D : UD} {bs : Nat} {a0 : Nat} {u0 : UH} {v : UH} (h : fX9_init a0 u0 = some v) : Met l yX9_init (wz yX9_init cX9_init 1 none) rmX9_init (va_Pc [.ref (bs + a0)] (uIn D bs u0)) (uQv D bs u0 v) 1 40 (uA bs u0) := by
  refine uMet (by decide) (Nat.le_of_ble_eq_true rfl) ?_
  intro X tw hX C hin
  have C : uCx X D bs tw cX9_init 1 RX9 none := C
  have hin : X.2.2.2.2.2.2.2.1.name = "<init>" := hin
  refine v_L [(0, .ref (bs + a0))] rfl ?_
  unfold fX9_init at h
  refine v_aload_n C 0 dX9_init_0 rfl rfl ?_
  refine v_objInit C tw276 tw23 tw24 (Nat.le_of_ble_eq_true rfl) (Nat.le_of_ble_eq_true rfl) dX9_init_1 ?_
  refine v_aload_n C 0 dX9_init_4 rfl rfl ?_
  refine v_bipush C (40 : Int32) dX9_init_5 (by decide) ?_
  refine v_newaP C (atype := .char) 22 40 rfl tw308 (Or.inr ⟨by decide, by decide, rfl⟩) (by decide) (fun t h cA hc => by obtain ⟨_, _, rfl⟩ := h; exact hc) (by decide) (by decide) (Nat.le_of_ble_eq_true rfl) (Nat.le_of_ble_eq_true rfl) (Nat.le_of_ble_eq_true rfl) dX9_init_7 h (fun b1 u2 h => ?_)
  refine v_putR C fdX9_9 (fun _ => rfl) (fun _ => rfl) (fun _ => hin) dX9_init_9 h (fun u3 h => ?_)
  exact v_vret C dX9_init_12 (Option.some.inj h)
set_option maxRecDepth 100000 in
set_option maxHeartbeats 4000000 in
theorem mX8_init {l : Launch} {D : UD} {bs : Nat} {a0 : Nat} {u0 : UH} {v : UH} (h : fX8_init a0 u0 = some v) : Met l yX8_init (wz yX8_init cX8_init 1 none) rmX8_init (va_Pc [.ref (bs + a0)] (uIn D bs u0)) (uQv D bs u0 v) 1 40 (uA bs u0) := by
  refine uMet (by decide) (Nat.le_of_ble_eq_true rfl) ?_
  intro X tw hX C hin
  have C : uCx X D bs tw cX8_init 1 RX8 none := C
  have hin : X.2.2.2.2.2.2.2.1.name = "<init>" := hin
  refine v_L [(0, .ref (bs + a0))] rfl ?_
  unfold fX8_init at h
  refine v_aload_n C 0 dX8_init_0 rfl rfl ?_
  refine v_objInit C tw314 tw23 tw24 (Nat.le_of_ble_eq_true rfl) (Nat.le_of_ble_eq_true rfl) dX8_init_1 ?_
  refine v_aload_n C 0 dX8_init_4 rfl rfl ?_
  refine v_bipush C (40 : Int32) dX8_init_5 (by decide) ?_
  refine v_newaP C (atype := .char) 22 40 rfl tw308 (Or.inr ⟨by decide, by decide, rfl⟩) (by decide) (fun t h cA hc => by obtain ⟨_, _, rfl⟩ := h; exact hc) (by decide) (by decide) (Nat.le_of_ble_eq_true rfl) (Nat.le_of_ble_eq_true rfl) (Nat.le_of_ble_eq_true rfl) dX8_init_7 h (fun b1 u2 h => ?_)
  refine v_putR C fdX8_9 (fun _ => rfl) (fun _ => rfl) (fun _ => hin) dX8_init_9 h (fun u3 h => ?_)
  exact v_vret C dX8_init_12 (Option.some.inj h)
set_option maxRecDepth 100000 in
set_option maxHeartbeats 4000000 in
theorem mX5_init {l : Launch} {D : UD} {bs : Nat} {a0 : Nat} {u0 : UH} {v : UH} (h : fX5_init a0 u0 = some v) : Met l yX5_init (wz yX5_init cX5_init 1 none) rmX5_init (va_Pc [.ref (bs + a0)] (uIn D bs u0)) (uQv D bs u0 v) 0 0 (uA bs u0) := by
  refine uMet (by decide) (Nat.le_of_ble_eq_true rfl) ?_
  intro X tw hX C hin
  have C : uCx X D bs tw cX5_init 1 RX5 none := C
  have hin : X.2.2.2.2.2.2.2.1.name = "<init>" := hin
  refine v_L [(0, .ref (bs + a0))] rfl ?_
  unfold fX5_init at h
  refine v_aload_n C 0 dX5_init_0 rfl rfl ?_
  refine v_objInit C tw330 tw23 tw24 (Nat.le_of_ble_eq_true rfl) (Nat.le_of_ble_eq_true rfl) dX5_init_1 ?_
  exact v_vret C dX5_init_4 (Option.some.inj h)
set_option maxRecDepth 100000 in
set_option maxHeartbeats 4000000 in
theorem mX4_allHeaders {l : Launch} {D : UD} {bs : Nat} {a0 : Nat} {u0 : UH} {r : Int64} (h : fX4_allHeaders a0 u0 = some r) : Met l yX4_allHeaders (wz yX4_allHeaders cX4_allHeaders 1 (some .long)) rmX4_allHeaders (va_Pc [.ref (bs + a0)] (uIn D bs u0)) (uQl D bs u0 u0 r) 0 0 (uA bs u0) := by
  refine uMet (by decide) (Nat.le_of_ble_eq_true rfl) ?_
  intro X tw hX C hin
  have C : uCx X D bs tw cX4_allHeaders 1 RX4 (some .long) := C
  have hin : X.2.2.2.2.2.2.2.1.name = "allHeaders" := hin
  refine v_L [(0, .ref (bs + a0))] rfl ?_
  unfold fX4_allHeaders at h
  refine v_lconst C (1 : Int64) dX4_allHeaders_0 (by decide) ?_
  refine v_iconst C (1 : Int32) dX4_allHeaders_1 (by decide) ?_
  refine v_aload_n C 0 dX4_allHeaders_2 rfl rfl ?_
  refine v_getI C fdX4_33 dX4_allHeaders_3 h (fun y1 h => ?_)
  refine v_ishl C dX4_allHeaders_6 ?_
  refine v_lshl C dX4_allHeaders_7 ?_
  refine v_lconst C (1 : Int64) dX4_allHeaders_8 (by decide) ?_
  refine v_lsub C dX4_allHeaders_9 ?_
  exact v_lret C dX4_allHeaders_10 rfl (Option.some.inj h)
set_option maxRecDepth 100000 in
set_option maxHeartbeats 4000000 in
theorem mX11_init {l : Launch} {D : UD} {bs : Nat} {a0 : Nat} {u0 : UH} {v : UH} (h : fX11_init a0 u0 = some v) : Met l yX11_init (wz yX11_init cX11_init 2 none) rmX11_init (va_Pc [.ref (bs + a0)] (uIn D bs u0)) (uQv D bs u0 v) 72 3390 (uA bs u0) := by
  refine uMet (by decide) (Nat.le_of_ble_eq_true rfl) ?_
  intro X tw hX C hin
  have C : uCx X D bs tw cX11_init 2 RX11 none := C
  have hin : X.2.2.2.2.2.2.2.1.name = "<init>" := hin
  refine v_L [(0, .ref (bs + a0))] rfl ?_
  unfold fX11_init at h
  refine v_aload_n C 0 dX11_init_0 rfl rfl ?_
  refine v_objInit C tw22 tw23 tw24 (Nat.le_of_ble_eq_true rfl) (Nat.le_of_ble_eq_true rfl) dX11_init_1 ?_
  refine v_aload_n C 0 dX11_init_4 rfl rfl ?_
  refine v_new C cdX11_11 (Nat.le_of_ble_eq_true rfl) (Nat.le_of_ble_eq_true rfl) dX11_init_5 h (fun b1 u2 h => ?_)
  refine v_dup C dX11_init_8 rfl ?_
  obtain ⟨u3, h1, h⟩ := ob_some h
  refine v_gov (rn_I C gcX11_13 (mX4_init h1) ⟨rfl, rfl⟩ rfl ⟨Nat.le_of_ble_eq_true rfl, Nat.le_of_ble_eq_true rfl⟩ (rest := [.ref (bs + b1), .ref (bs + a0)]) rfl (Nat.le_of_ble_eq_true rfl) ⟨Nat.le_of_ble_eq_true rfl, Nat.le_of_ble_eq_true rfl⟩ dX11_init_9) ?_
  refine v_putR C fdX11_14 (fun _ => rfl) (fun _ => rfl) (fun _ => hin) dX11_init_12 h (fun u4 h => ?_)
  refine v_aload_n C 0 dX11_init_15 rfl rfl ?_
  refine v_new C cdX11_18 (Nat.le_of_ble_eq_true rfl) (Nat.le_of_ble_eq_true rfl) dX11_init_16 h (fun b5 u6 h => ?_)
  refine v_dup C dX11_init_19 rfl ?_
  obtain ⟨u7, h1, h⟩ := ob_some h
  refine v_gov (rn_I C gcX11_20 (mX3_init h1) ⟨rfl, rfl⟩ rfl ⟨Nat.le_of_ble_eq_true rfl, Nat.le_of_ble_eq_true rfl⟩ (rest := [.ref (bs + b5), .ref (bs + a0)]) rfl (Nat.le_of_ble_eq_true rfl) ⟨Nat.le_of_ble_eq_true rfl, Nat.le_of_ble_eq_true rfl⟩ dX11_init_20) ?_
  refine v_putR C fdX11_21 (fun _ => rfl) (fun _ => rfl) (fun _ => hin) dX11_init_23 h (fun u8 h => ?_)
  refine v_aload_n C 0 dX11_init_26 rfl rfl ?_
  refine v_new C cdX11_25 (Nat.le_of_ble_eq_true rfl) (Nat.le_of_ble_eq_true rfl) dX11_init_27 h (fun b9 u10 h => ?_)
  refine v_dup C dX11_init_30 rfl ?_
  refine v_aload_n C 0 dX11_init_31 rfl rfl ?_
  refine v_getR C fdX11_14 dX11_init_32 h (fun b11 h => ?_)
  obtain ⟨u12, h1, h⟩ := ob_some h
  refine v_gov (rn_I C gcX11_27 (mX2_init h1) ⟨rfl, rfl⟩ rfl ⟨Nat.le_of_ble_eq_true rfl, Nat.le_of_ble_eq_true rfl⟩ (rest := [.ref (bs + b9), .ref (bs + a0)]) rfl (Nat.le_of_ble_eq_true rfl) ⟨Nat.le_of_ble_eq_true rfl, Nat.le_of_ble_eq_true rfl⟩ dX11_init_35) ?_
  refine v_putR C fdX11_30 (fun _ => rfl) (fun _ => rfl) (fun _ => hin) dX11_init_38 h (fun u13 h => ?_)
  refine v_aload_n C 0 dX11_init_41 rfl rfl ?_
  refine v_new C cdX11_34 (Nat.le_of_ble_eq_true rfl) (Nat.le_of_ble_eq_true rfl) dX11_init_42 h (fun b14 u15 h => ?_)
  refine v_dup C dX11_init_45 rfl ?_
  refine v_aload_n C 0 dX11_init_46 rfl rfl ?_
  refine v_getR C fdX11_14 dX11_init_47 h (fun b16 h => ?_)
  obtain ⟨u17, h1, h⟩ := ob_some h
  refine v_gov (rn_I C gcX11_36 (mX1_init h1) ⟨rfl, rfl⟩ rfl ⟨Nat.le_of_ble_eq_true rfl, Nat.le_of_ble_eq_true rfl⟩ (rest := [.ref (bs + b14), .ref (bs + a0)]) rfl (Nat.le_of_ble_eq_true rfl) ⟨Nat.le_of_ble_eq_true rfl, Nat.le_of_ble_eq_true rfl⟩ dX11_init_50) ?_
  refine v_putR C fdX11_37 (fun _ => rfl) (fun _ => rfl) (fun _ => hin) dX11_init_53 h (fun u18 h => ?_)
  refine v_aload_n C 0 dX11_init_56 rfl rfl ?_
  refine v_new C cdX11_41 (Nat.le_of_ble_eq_true rfl) (Nat.le_of_ble_eq_true rfl) dX11_init_57 h (fun b19 u20 h => ?_)
  refine v_dup C dX11_init_60 rfl ?_
  refine v_aload_n C 0 dX11_init_61 rfl rfl ?_
  refine v_getR C fdX11_14 dX11_init_62 h (fun b21 h => ?_)
  obtain ⟨u22, h1, h⟩ := ob_some h
  refine v_gov (rn_I C gcX11_43 (mX10_init h1) ⟨rfl, rfl⟩ rfl ⟨Nat.le_of_ble_eq_true rfl, Nat.le_of_ble_eq_true rfl⟩ (rest := [.ref (bs + b19), .ref (bs + a0)]) rfl (Nat.le_of_ble_eq_true rfl) ⟨Nat.le_of_ble_eq_true rfl, Nat.le_of_ble_eq_true rfl⟩ dX11_init_65) ?_
  refine v_putR C fdX11_44 (fun _ => rfl) (fun _ => rfl) (fun _ => hin) dX11_init_68 h (fun u23 h => ?_)
  refine v_aload_n C 0 dX11_init_71 rfl rfl ?_
  refine v_new C cdX11_48 (Nat.le_of_ble_eq_true rfl) (Nat.le_of_ble_eq_true rfl) dX11_init_72 h (fun b24 u25 h => ?_)
  refine v_dup C dX11_init_75 rfl ?_
  refine v_aload_n C 0 dX11_init_76 rfl rfl ?_
  refine v_getR C fdX11_14 dX11_init_77 h (fun b26 h => ?_)
  obtain ⟨u27, h1, h⟩ := ob_some h
  refine v_gov (rn_I C gcX11_50 (mX0_init h1) ⟨rfl, rfl⟩ rfl ⟨Nat.le_of_ble_eq_true rfl, Nat.le_of_ble_eq_true rfl⟩ (rest := [.ref (bs + b24), .ref (bs + a0)]) rfl (Nat.le_of_ble_eq_true rfl) ⟨Nat.le_of_ble_eq_true rfl, Nat.le_of_ble_eq_true rfl⟩ dX11_init_80) ?_
  refine v_putR C fdX11_51 (fun _ => rfl) (fun _ => rfl) (fun _ => hin) dX11_init_83 h (fun u28 h => ?_)
  refine v_aload_n C 0 dX11_init_86 rfl rfl ?_
  refine v_new C cdX11_55 (Nat.le_of_ble_eq_true rfl) (Nat.le_of_ble_eq_true rfl) dX11_init_87 h (fun b29 u30 h => ?_)
  refine v_dup C dX11_init_90 rfl ?_
  obtain ⟨u31, h1, h⟩ := ob_some h
  refine v_gov (rn_J C gcX11_57 (mX9_init h1) ⟨rfl, rfl⟩ rfl ⟨Nat.le_of_ble_eq_true rfl, Nat.le_of_ble_eq_true rfl⟩ (rest := [.ref (bs + b29), .ref (bs + a0)]) rfl (Nat.le_of_ble_eq_true rfl) ⟨Nat.le_of_ble_eq_true rfl, Nat.le_of_ble_eq_true rfl⟩ dX11_init_91) ?_
  refine v_putR C fdX11_58 (fun _ => rfl) (fun _ => rfl) (fun _ => hin) dX11_init_94 h (fun u32 h => ?_)
  refine v_aload_n C 0 dX11_init_97 rfl rfl ?_
  refine v_new C cdX11_62 (Nat.le_of_ble_eq_true rfl) (Nat.le_of_ble_eq_true rfl) dX11_init_98 h (fun b33 u34 h => ?_)
  refine v_dup C dX11_init_101 rfl ?_
  obtain ⟨u35, h1, h⟩ := ob_some h
  refine v_gov (rn_J C gcX11_64 (mX8_init h1) ⟨rfl, rfl⟩ rfl ⟨Nat.le_of_ble_eq_true rfl, Nat.le_of_ble_eq_true rfl⟩ (rest := [.ref (bs + b33), .ref (bs + a0)]) rfl (Nat.le_of_ble_eq_true rfl) ⟨Nat.le_of_ble_eq_true rfl, Nat.le_of_ble_eq_true rfl⟩ dX11_init_102) ?_
  refine v_putR C fdX11_65 (fun _ => rfl) (fun _ => rfl) (fun _ => hin) dX11_init_105 h (fun u36 h => ?_)
  refine v_aload_n C 0 dX11_init_108 rfl rfl ?_
  refine v_bipush C (8 : Int32) dX11_init_109 (by decide) ?_
  refine v_anew C 24 8 rfl (by decide) tw324 tw325 (by decide) (by decide) (Nat.le_of_ble_eq_true rfl) (Nat.le_of_ble_eq_true rfl) (Nat.le_of_ble_eq_true rfl) dX11_init_111 h (fun b37 u38 h => ?_)
  refine v_putR C fdX11_71 (fun _ => rfl) (fun _ => rfl) (fun _ => hin) dX11_init_114 h (fun u39 h => ?_)
  refine v_iconst C (0 : Int32) dX11_init_117 (by decide) ?_
  refine v_istore_n C [(1, .int (0 : Int32)), (0, .ref (bs + a0))] dX11_init_118 rfl (by decide) rfl ?_
  refine v_iload_n C 0 dX11_init_119 rfl rfl ?_
  refine v_bipush C (8 : Int32) dX11_init_120 (by decide) ?_
  refine v_icmpge_f C 144 dX11_init_122 (by decide) (by decide) ?_
  refine v_aload_n C 1 dX11_init_125 rfl rfl ?_
  refine v_getR C fdX11_71 dX11_init_126 h (fun b40 h => ?_)
  refine v_iload_n C 0 dX11_init_129 rfl rfl ?_
  refine v_new C cdX11_69 (Nat.le_of_ble_eq_true rfl) (Nat.le_of_ble_eq_true rfl) dX11_init_130 h (fun b41 u42 h => ?_)
  refine v_dup C dX11_init_133 rfl ?_
  obtain ⟨u43, h1, h⟩ := ob_some h
  refine v_gov (rn_J C gcX11_75 (mX5_init h1) ⟨rfl, rfl⟩ rfl ⟨Nat.le_of_ble_eq_true rfl, Nat.le_of_ble_eq_true rfl⟩ (rest := [.ref (bs + b41), .int (0 : Int32), .ref (bs + b40)]) rfl (Nat.le_of_ble_eq_true rfl) ⟨Nat.le_of_ble_eq_true rfl, Nat.le_of_ble_eq_true rfl⟩ dX11_init_134) ?_
  refine v_stR C 24 5 (RX5, TX5, 4) rfl rfl (by decide) (by decide) dX11_init_137 h (fun u44 h => ?_)
  refine v_iinc C 0 (1 : Int32) [(1, .int (1 : Int32)), (0, .ref (bs + a0))] dX11_init_138 rfl (by decide) (by decide) rfl ?_
  refine v_goto C 119 dX11_init_141 (by decide) ?_
  refine v_iload_n C 0 dX11_init_119 rfl rfl ?_
  refine v_bipush C (8 : Int32) dX11_init_120 (by decide) ?_
  refine v_icmpge_f C 144 dX11_init_122 (by decide) (by decide) ?_
  refine v_aload_n C 1 dX11_init_125 rfl rfl ?_
  refine v_getR C fdX11_71 dX11_init_126 h (fun b45 h => ?_)
  refine v_iload_n C 0 dX11_init_129 rfl rfl ?_
  refine v_new C cdX11_69 (Nat.le_of_ble_eq_true rfl) (Nat.le_of_ble_eq_true rfl) dX11_init_130 h (fun b46 u47 h => ?_)
  refine v_dup C dX11_init_133 rfl ?_
  obtain ⟨u48, h1, h⟩ := ob_some h
  refine v_gov (rn_J C gcX11_75 (mX5_init h1) ⟨rfl, rfl⟩ rfl ⟨Nat.le_of_ble_eq_true rfl, Nat.le_of_ble_eq_true rfl⟩ (rest := [.ref (bs + b46), .int (1 : Int32), .ref (bs + b45)]) rfl (Nat.le_of_ble_eq_true rfl) ⟨Nat.le_of_ble_eq_true rfl, Nat.le_of_ble_eq_true rfl⟩ dX11_init_134) ?_
  refine v_stR C 24 5 (RX5, TX5, 4) rfl rfl (by decide) (by decide) dX11_init_137 h (fun u49 h => ?_)
  refine v_iinc C 0 (2 : Int32) [(1, .int (2 : Int32)), (0, .ref (bs + a0))] dX11_init_138 rfl (by decide) (by decide) rfl ?_
  refine v_goto C 119 dX11_init_141 (by decide) ?_
  refine v_iload_n C 0 dX11_init_119 rfl rfl ?_
  refine v_bipush C (8 : Int32) dX11_init_120 (by decide) ?_
  refine v_icmpge_f C 144 dX11_init_122 (by decide) (by decide) ?_
  refine v_aload_n C 1 dX11_init_125 rfl rfl ?_
  refine v_getR C fdX11_71 dX11_init_126 h (fun b50 h => ?_)
  refine v_iload_n C 0 dX11_init_129 rfl rfl ?_
  refine v_new C cdX11_69 (Nat.le_of_ble_eq_true rfl) (Nat.le_of_ble_eq_true rfl) dX11_init_130 h (fun b51 u52 h => ?_)
  refine v_dup C dX11_init_133 rfl ?_
  obtain ⟨u53, h1, h⟩ := ob_some h
  refine v_gov (rn_J C gcX11_75 (mX5_init h1) ⟨rfl, rfl⟩ rfl ⟨Nat.le_of_ble_eq_true rfl, Nat.le_of_ble_eq_true rfl⟩ (rest := [.ref (bs + b51), .int (2 : Int32), .ref (bs + b50)]) rfl (Nat.le_of_ble_eq_true rfl) ⟨Nat.le_of_ble_eq_true rfl, Nat.le_of_ble_eq_true rfl⟩ dX11_init_134) ?_
  refine v_stR C 24 5 (RX5, TX5, 4) rfl rfl (by decide) (by decide) dX11_init_137 h (fun u54 h => ?_)
  refine v_iinc C 0 (3 : Int32) [(1, .int (3 : Int32)), (0, .ref (bs + a0))] dX11_init_138 rfl (by decide) (by decide) rfl ?_
  refine v_goto C 119 dX11_init_141 (by decide) ?_
  refine v_iload_n C 0 dX11_init_119 rfl rfl ?_
  refine v_bipush C (8 : Int32) dX11_init_120 (by decide) ?_
  refine v_icmpge_f C 144 dX11_init_122 (by decide) (by decide) ?_
  refine v_aload_n C 1 dX11_init_125 rfl rfl ?_
  refine v_getR C fdX11_71 dX11_init_126 h (fun b55 h => ?_)
  refine v_iload_n C 0 dX11_init_129 rfl rfl ?_
  refine v_new C cdX11_69 (Nat.le_of_ble_eq_true rfl) (Nat.le_of_ble_eq_true rfl) dX11_init_130 h (fun b56 u57 h => ?_)
  refine v_dup C dX11_init_133 rfl ?_
  obtain ⟨u58, h1, h⟩ := ob_some h
  refine v_gov (rn_J C gcX11_75 (mX5_init h1) ⟨rfl, rfl⟩ rfl ⟨Nat.le_of_ble_eq_true rfl, Nat.le_of_ble_eq_true rfl⟩ (rest := [.ref (bs + b56), .int (3 : Int32), .ref (bs + b55)]) rfl (Nat.le_of_ble_eq_true rfl) ⟨Nat.le_of_ble_eq_true rfl, Nat.le_of_ble_eq_true rfl⟩ dX11_init_134) ?_
  refine v_stR C 24 5 (RX5, TX5, 4) rfl rfl (by decide) (by decide) dX11_init_137 h (fun u59 h => ?_)
  refine v_iinc C 0 (4 : Int32) [(1, .int (4 : Int32)), (0, .ref (bs + a0))] dX11_init_138 rfl (by decide) (by decide) rfl ?_
  refine v_goto C 119 dX11_init_141 (by decide) ?_
  refine v_iload_n C 0 dX11_init_119 rfl rfl ?_
  refine v_bipush C (8 : Int32) dX11_init_120 (by decide) ?_
  refine v_icmpge_f C 144 dX11_init_122 (by decide) (by decide) ?_
  refine v_aload_n C 1 dX11_init_125 rfl rfl ?_
  refine v_getR C fdX11_71 dX11_init_126 h (fun b60 h => ?_)
  refine v_iload_n C 0 dX11_init_129 rfl rfl ?_
  refine v_new C cdX11_69 (Nat.le_of_ble_eq_true rfl) (Nat.le_of_ble_eq_true rfl) dX11_init_130 h (fun b61 u62 h => ?_)
  refine v_dup C dX11_init_133 rfl ?_
  obtain ⟨u63, h1, h⟩ := ob_some h
  refine v_gov (rn_J C gcX11_75 (mX5_init h1) ⟨rfl, rfl⟩ rfl ⟨Nat.le_of_ble_eq_true rfl, Nat.le_of_ble_eq_true rfl⟩ (rest := [.ref (bs + b61), .int (4 : Int32), .ref (bs + b60)]) rfl (Nat.le_of_ble_eq_true rfl) ⟨Nat.le_of_ble_eq_true rfl, Nat.le_of_ble_eq_true rfl⟩ dX11_init_134) ?_
  refine v_stR C 24 5 (RX5, TX5, 4) rfl rfl (by decide) (by decide) dX11_init_137 h (fun u64 h => ?_)
  refine v_iinc C 0 (5 : Int32) [(1, .int (5 : Int32)), (0, .ref (bs + a0))] dX11_init_138 rfl (by decide) (by decide) rfl ?_
  refine v_goto C 119 dX11_init_141 (by decide) ?_
  refine v_iload_n C 0 dX11_init_119 rfl rfl ?_
  refine v_bipush C (8 : Int32) dX11_init_120 (by decide) ?_
  refine v_icmpge_f C 144 dX11_init_122 (by decide) (by decide) ?_
  refine v_aload_n C 1 dX11_init_125 rfl rfl ?_
  refine v_getR C fdX11_71 dX11_init_126 h (fun b65 h => ?_)
  refine v_iload_n C 0 dX11_init_129 rfl rfl ?_
  refine v_new C cdX11_69 (Nat.le_of_ble_eq_true rfl) (Nat.le_of_ble_eq_true rfl) dX11_init_130 h (fun b66 u67 h => ?_)
  refine v_dup C dX11_init_133 rfl ?_
  obtain ⟨u68, h1, h⟩ := ob_some h
  refine v_gov (rn_J C gcX11_75 (mX5_init h1) ⟨rfl, rfl⟩ rfl ⟨Nat.le_of_ble_eq_true rfl, Nat.le_of_ble_eq_true rfl⟩ (rest := [.ref (bs + b66), .int (5 : Int32), .ref (bs + b65)]) rfl (Nat.le_of_ble_eq_true rfl) ⟨Nat.le_of_ble_eq_true rfl, Nat.le_of_ble_eq_true rfl⟩ dX11_init_134) ?_
  refine v_stR C 24 5 (RX5, TX5, 4) rfl rfl (by decide) (by decide) dX11_init_137 h (fun u69 h => ?_)
  refine v_iinc C 0 (6 : Int32) [(1, .int (6 : Int32)), (0, .ref (bs + a0))] dX11_init_138 rfl (by decide) (by decide) rfl ?_
  refine v_goto C 119 dX11_init_141 (by decide) ?_
  refine v_iload_n C 0 dX11_init_119 rfl rfl ?_
  refine v_bipush C (8 : Int32) dX11_init_120 (by decide) ?_
  refine v_icmpge_f C 144 dX11_init_122 (by decide) (by decide) ?_
  refine v_aload_n C 1 dX11_init_125 rfl rfl ?_
  refine v_getR C fdX11_71 dX11_init_126 h (fun b70 h => ?_)
  refine v_iload_n C 0 dX11_init_129 rfl rfl ?_
  refine v_new C cdX11_69 (Nat.le_of_ble_eq_true rfl) (Nat.le_of_ble_eq_true rfl) dX11_init_130 h (fun b71 u72 h => ?_)
  refine v_dup C dX11_init_133 rfl ?_
  obtain ⟨u73, h1, h⟩ := ob_some h
  refine v_gov (rn_J C gcX11_75 (mX5_init h1) ⟨rfl, rfl⟩ rfl ⟨Nat.le_of_ble_eq_true rfl, Nat.le_of_ble_eq_true rfl⟩ (rest := [.ref (bs + b71), .int (6 : Int32), .ref (bs + b70)]) rfl (Nat.le_of_ble_eq_true rfl) ⟨Nat.le_of_ble_eq_true rfl, Nat.le_of_ble_eq_true rfl⟩ dX11_init_134) ?_
  refine v_stR C 24 5 (RX5, TX5, 4) rfl rfl (by decide) (by decide) dX11_init_137 h (fun u74 h => ?_)
  refine v_iinc C 0 (7 : Int32) [(1, .int (7 : Int32)), (0, .ref (bs + a0))] dX11_init_138 rfl (by decide) (by decide) rfl ?_
  refine v_goto C 119 dX11_init_141 (by decide) ?_
  refine v_iload_n C 0 dX11_init_119 rfl rfl ?_
  refine v_bipush C (8 : Int32) dX11_init_120 (by decide) ?_
  refine v_icmpge_f C 144 dX11_init_122 (by decide) (by decide) ?_
  refine v_aload_n C 1 dX11_init_125 rfl rfl ?_
  refine v_getR C fdX11_71 dX11_init_126 h (fun b75 h => ?_)
  refine v_iload_n C 0 dX11_init_129 rfl rfl ?_
  refine v_new C cdX11_69 (Nat.le_of_ble_eq_true rfl) (Nat.le_of_ble_eq_true rfl) dX11_init_130 h (fun b76 u77 h => ?_)
  refine v_dup C dX11_init_133 rfl ?_
  obtain ⟨u78, h1, h⟩ := ob_some h
  refine v_gov (rn_J C gcX11_75 (mX5_init h1) ⟨rfl, rfl⟩ rfl ⟨Nat.le_of_ble_eq_true rfl, Nat.le_of_ble_eq_true rfl⟩ (rest := [.ref (bs + b76), .int (7 : Int32), .ref (bs + b75)]) rfl (Nat.le_of_ble_eq_true rfl) ⟨Nat.le_of_ble_eq_true rfl, Nat.le_of_ble_eq_true rfl⟩ dX11_init_134) ?_
  refine v_stR C 24 5 (RX5, TX5, 4) rfl rfl (by decide) (by decide) dX11_init_137 h (fun u79 h => ?_)
  refine v_iinc C 0 (8 : Int32) [(1, .int (8 : Int32)), (0, .ref (bs + a0))] dX11_init_138 rfl (by decide) (by decide) rfl ?_
  refine v_goto C 119 dX11_init_141 (by decide) ?_
  refine v_iload_n C 0 dX11_init_119 rfl rfl ?_
  refine v_bipush C (8 : Int32) dX11_init_120 (by decide) ?_
  refine v_icmpge_t C 144 dX11_init_122 (by decide) (by decide) ?_
  refine v_aload_n C 1 dX11_init_144 rfl rfl ?_
  refine v_aload_n C 1 dX11_init_145 rfl rfl ?_
  refine v_getR C fdX11_14 dX11_init_146 h (fun b80 h => ?_)
  obtain ⟨y81, h1, h⟩ := ob_some h
  obtain ⟨hkd, h1⟩ := kd_some h1
  refine v_gol (rn_V C gcX11_76 (RX4, TX4, 4) rfl rfl (by decide) hkd (mX4_allHeaders h1) ⟨rfl, rfl⟩ rfl ⟨Nat.le_of_ble_eq_true rfl, Nat.le_of_ble_eq_true rfl⟩ (rest := [.ref (bs + a0)]) rfl (Nat.le_of_ble_eq_true rfl) ⟨Nat.le_of_ble_eq_true rfl, Nat.le_of_ble_eq_true rfl⟩ dX11_init_149) ?_
  refine v_putJ C fdX11_80 (fun h => by cases h) dX11_init_152 h (fun u82 h => ?_)
  exact v_vret C dX11_init_155 (Option.some.inj h)
set_option maxRecDepth 100000 in
set_option maxHeartbeats 4000000 in
theorem mX11_reset {l : Launch} {D : UD} {bs : Nat} {a0 : Nat} {x1 : Int32} {u0 : UH} {r : Int32} {v : UH} (h : fX11_reset a0 x1 u0 = some (r, v)) : Met l yX11_reset (wz yX11_reset cX11_reset 3 (some .int)) rmX11_reset (va_Pc [.ref (bs + a0), .int x1] (uIn D bs u0)) (uQi D bs u0 v r) 0 0 (uA bs u0) := by
  refine uMet (by decide) (Nat.le_of_ble_eq_true rfl) ?_
  intro X tw hX C hin
  have C : uCx X D bs tw cX11_reset 3 RX11 (some .int) := C
  have hin : X.2.2.2.2.2.2.2.1.name = "reset" := hin
  refine v_L [(0, .ref (bs + a0)), (1, .int x1)] rfl ?_
  unfold fX11_reset at h
  refine v_iload_n C 1 dX11_reset_0 rfl rfl ?_
  refine v_iconst C (1 : Int32) dX11_reset_1 (by decide) ?_
  refine v_icmplt C 10 dX11_reset_2 (by decide) h (fun _ h => ?_) (fun _ h => ?_)
  · refine v_bipush C (-3 : Int32) dX11_reset_10 (by decide) ?_
    exact v_iret C dX11_reset_12 (Prod.mk.inj (Option.some.inj h)).2 (Prod.mk.inj (Option.some.inj h)).1
  · refine v_iload_n C 1 dX11_reset_5 rfl rfl ?_
    refine v_iconst C (5 : Int32) dX11_reset_6 (by decide) ?_
    refine v_icmple C 13 dX11_reset_7 (by decide) h (fun _ h => ?_) (fun _ h => ?_)
    · refine v_aload_n C 0 dX11_reset_13 rfl rfl ?_
      refine v_getR C fdX11_14 dX11_reset_14 h (fun b1 h => ?_)
      refine v_getI C fdX11_84 dX11_reset_17 h (fun y2 h => ?_)
      refine v_istore_n C [(2, .int y2), (0, .ref (bs + a0)), (1, .int x1)] dX11_reset_20 rfl (by decide) rfl ?_
      refine v_aload_n C 1 dX11_reset_21 rfl rfl ?_
      refine v_getR C fdX11_14 dX11_reset_22 h (fun b3 h => ?_)
      refine v_iload_n C 2 dX11_reset_25 rfl rfl ?_
      obtain ⟨u4, h1, h⟩ := ob_some h
      obtain ⟨hkd, h1⟩ := kd_some h1
      refine v_gov (rn_V C gcX11_88 (RX4, TX4, 4) rfl rfl (by decide) hkd (mX4_startAnew h1) ⟨rfl, rfl⟩ rfl ⟨Nat.le_of_ble_eq_true rfl, Nat.le_of_ble_eq_true rfl⟩ (rest := []) rfl (Nat.le_of_ble_eq_true rfl) ⟨Nat.le_of_ble_eq_true rfl, Nat.le_of_ble_eq_true rfl⟩ dX11_reset_26) ?_
      refine v_aload_n C 1 dX11_reset_29 rfl rfl ?_
      refine v_getR C fdX11_21 dX11_reset_30 h (fun b5 h => ?_)
      refine v_iconst C (0 : Int32) dX11_reset_33 (by decide) ?_
      refine v_putI C fdX11_92 (fun h => by cases h) dX11_reset_34 h (fun u6 h => ?_)
      refine v_aload_n C 1 dX11_reset_37 rfl rfl ?_
      refine v_iconst C (0 : Int32) dX11_reset_38 (by decide) ?_
      refine v_putI C fdX11_95 (fun h => by cases h) dX11_reset_39 h (fun u7 h => ?_)
      refine v_aload_n C 1 dX11_reset_42 rfl rfl ?_
      refine v_iconst C (0 : Int32) dX11_reset_43 (by decide) ?_
      refine v_putI C fdX11_98 (fun h => by cases h) dX11_reset_44 h (fun u8 h => ?_)
      refine v_aload_n C 1 dX11_reset_47 rfl rfl ?_
      refine v_aload_n C 1 dX11_reset_48 rfl rfl ?_
      refine v_getR C fdX11_14 dX11_reset_49 h (fun b9 h => ?_)
      obtain ⟨y10, h1, h⟩ := ob_some h
      obtain ⟨hkd, h1⟩ := kd_some h1
      refine v_gol (rn_V C gcX11_76 (RX4, TX4, 4) rfl rfl (by decide) hkd (mX4_allHeaders h1) ⟨rfl, rfl⟩ rfl ⟨Nat.le_of_ble_eq_true rfl, Nat.le_of_ble_eq_true rfl⟩ (rest := [.ref (bs + a0)]) rfl (Nat.le_of_ble_eq_true rfl) ⟨Nat.le_of_ble_eq_true rfl, Nat.le_of_ble_eq_true rfl⟩ dX11_reset_52) ?_
      refine v_putJ C fdX11_80 (fun h => by cases h) dX11_reset_55 h (fun u11 h => ?_)
      refine v_iload_n C 0 dX11_reset_58 rfl rfl ?_
      exact v_iret C dX11_reset_59 (Prod.mk.inj (Option.some.inj h)).2 (Prod.mk.inj (Option.some.inj h)).1
    · refine v_bipush C (-3 : Int32) dX11_reset_10 (by decide) ?_
      exact v_iret C dX11_reset_12 (Prod.mk.inj (Option.some.inj h)).2 (Prod.mk.inj (Option.some.inj h)).1
set_option maxRecDepth 100000 in
set_option maxHeartbeats 4000000 in
theorem mX11_isBox {l : Launch} {D : UD} {bs : Nat} {x0 : Int32} {u0 : UH} {r : Int32} (h : fX11_isBox x0 u0 = some r) : Met l yX11_isBox (wz yX11_isBox cX11_isBox 1 (some .boolean)) rmX11_isBox (va_Pc [.int x0] (uIn D bs u0)) (uQi D bs u0 u0 r) 0 0 (uA bs u0) := by
  refine uMet (by decide) (Nat.le_of_ble_eq_true rfl) ?_
  intro X tw hX C hin
  have C : uCx X D bs tw cX11_isBox 1 RX11 (some .boolean) := C
  have hin : X.2.2.2.2.2.2.2.1.name = "isBox" := hin
  refine v_L [(0, .int x0)] rfl ?_
  unfold fX11_isBox at h
  refine v_iload_n C 0 dX11_isBox_0 rfl rfl ?_
  refine v_iflt C 14 dX11_isBox_1 (by decide) h (fun _ h => ?_) (fun _ h => ?_)
  · refine v_iconst C (0 : Int32) dX11_isBox_14 (by decide) ?_
    exact v_zret C dX11_isBox_15 rfl (Option.some.inj h) rfl
  · refine v_iload_n C 0 dX11_isBox_4 rfl rfl ?_
    refine v_bipush C (6 : Int32) dX11_isBox_5 (by decide) ?_
    refine v_icmpge C 14 dX11_isBox_7 (by decide) h (fun _ h => ?_) (fun _ h => ?_)
    · refine v_iconst C (0 : Int32) dX11_isBox_14 (by decide) ?_
      exact v_zret C dX11_isBox_15 rfl (Option.some.inj h) rfl
    · refine v_iconst C (1 : Int32) dX11_isBox_10 (by decide) ?_
      refine v_goto C 15 dX11_isBox_11 (by decide) ?_
      exact v_zret C dX11_isBox_15 rfl (Option.some.inj h) rfl
set_option maxRecDepth 100000 in
set_option maxHeartbeats 4000000 in
theorem mX11_isPlace {l : Launch} {D : UD} {bs : Nat} {x0 : Int32} {x1 : Int32} {u0 : UH} {r : Int32} (h : fX11_isPlace x0 x1 u0 = some r) : Met l yX11_isPlace (wz yX11_isPlace cX11_isPlace 2 (some .boolean)) rmX11_isPlace (va_Pc [.int x0, .int x1] (uIn D bs u0)) (uQi D bs u0 u0 r) 0 0 (uA bs u0) := by
  refine uMet (by decide) (Nat.le_of_ble_eq_true rfl) ?_
  intro X tw hX C hin
  have C : uCx X D bs tw cX11_isPlace 2 RX11 (some .boolean) := C
  have hin : X.2.2.2.2.2.2.2.1.name = "isPlace" := hin
  refine v_L [(0, .int x0), (1, .int x1)] rfl ?_
  unfold fX11_isPlace at h
  refine v_iload_n C 0 dX11_isPlace_0 rfl rfl ?_
  obtain ⟨y1, h1, h⟩ := ob_some h
  refine v_goi (rn_S C gcX11_116 (mX11_isBox h1) ⟨rfl, rfl⟩ rfl ⟨Nat.le_of_ble_eq_true rfl, Nat.le_of_ble_eq_true rfl⟩ (rest := []) rfl (Nat.le_of_ble_eq_true rfl) ⟨Nat.le_of_ble_eq_true rfl, Nat.le_of_ble_eq_true rfl⟩ dX11_isPlace_1) ?_
  refine v_ifeq C 20 dX11_isPlace_4 (by decide) h (fun _ h => ?_) (fun _ h => ?_)
  · refine v_iconst C (0 : Int32) dX11_isPlace_20 (by decide) ?_
    exact v_zret C dX11_isPlace_21 rfl (Option.some.inj h) rfl
  · refine v_iload_n C 1 dX11_isPlace_7 rfl rfl ?_
    refine v_iflt C 20 dX11_isPlace_8 (by decide) h (fun _ h => ?_) (fun _ h => ?_)
    · refine v_iconst C (0 : Int32) dX11_isPlace_20 (by decide) ?_
      exact v_zret C dX11_isPlace_21 rfl (Option.some.inj h) rfl
    · refine v_iload_n C 1 dX11_isPlace_11 rfl rfl ?_
      refine v_iconst C (4 : Int32) dX11_isPlace_12 (by decide) ?_
      refine v_icmpge C 20 dX11_isPlace_13 (by decide) h (fun _ h => ?_) (fun _ h => ?_)
      · refine v_iconst C (0 : Int32) dX11_isPlace_20 (by decide) ?_
        exact v_zret C dX11_isPlace_21 rfl (Option.some.inj h) rfl
      · refine v_iconst C (1 : Int32) dX11_isPlace_16 (by decide) ?_
        refine v_goto C 21 dX11_isPlace_17 (by decide) ?_
        exact v_zret C dX11_isPlace_21 rfl (Option.some.inj h) rfl
set_option maxRecDepth 100000 in
set_option maxHeartbeats 4000000 in
theorem mX11_placeOf {l : Launch} {D : UD} {bs : Nat} {x0 : Int32} {x1 : Int32} {u0 : UH} {r : Int32} (h : fX11_placeOf x0 x1 u0 = some r) : Met l yX11_placeOf (wz yX11_placeOf cX11_placeOf 2 (some .int)) rmX11_placeOf (va_Pc [.int x0, .int x1] (uIn D bs u0)) (uQi D bs u0 u0 r) 0 0 (uA bs u0) := by
  refine uMet (by decide) (Nat.le_of_ble_eq_true rfl) ?_
  intro X tw hX C hin
  have C : uCx X D bs tw cX11_placeOf 2 RX11 (some .int) := C
  have hin : X.2.2.2.2.2.2.2.1.name = "placeOf" := hin
  refine v_L [(0, .int x0), (1, .int x1)] rfl ?_
  unfold fX11_placeOf at h
  refine v_iload_n C 0 dX11_placeOf_0 rfl rfl ?_
  refine v_iconst C (4 : Int32) dX11_placeOf_1 (by decide) ?_
  refine v_imul C dX11_placeOf_2 ?_
  refine v_iload_n C 1 dX11_placeOf_3 rfl rfl ?_
  refine v_iadd C dX11_placeOf_4 ?_
  exact v_iret C dX11_placeOf_5 rfl (Option.some.inj h)
set_option maxRecDepth 100000 in
set_option maxHeartbeats 4000000 in
theorem mX11_connect {l : Launch} {D : UD} {bs : Nat} {a0 : Nat} {x1 : Int32} {x2 : Int32} {x3 : Int32} {x4 : Int32} {u0 : UH} {r : Int32} {v : UH} (h : fX11_connect a0 x1 x2 x3 x4 u0 = some (r, v)) : Met l yX11_connect (wz yX11_connect cX11_connect 7 (some .int)) rmX11_connect (va_Pc [.ref (bs + a0), .int x1, .int x2, .int x3, .int x4] (uIn D bs u0)) (uQi D bs u0 v r) 0 0 (uA bs u0) := by
  refine uMet (by decide) (Nat.le_of_ble_eq_true rfl) ?_
  intro X tw hX C hin
  have C : uCx X D bs tw cX11_connect 7 RX11 (some .int) := C
  have hin : X.2.2.2.2.2.2.2.1.name = "connect" := hin
  refine v_L [(0, .ref (bs + a0)), (1, .int x1), (2, .int x2), (3, .int x3), (4, .int x4)] rfl ?_
  unfold fX11_connect at h
  refine v_iload_n C 1 dX11_connect_0 rfl rfl ?_
  refine v_iload_n C 2 dX11_connect_1 rfl rfl ?_
  obtain ⟨y1, h1, h⟩ := ob_some h
  refine v_goi (rn_S C gcX11_101 (mX11_isPlace h1) ⟨rfl, rfl⟩ rfl ⟨Nat.le_of_ble_eq_true rfl, Nat.le_of_ble_eq_true rfl⟩ (rest := []) rfl (Nat.le_of_ble_eq_true rfl) ⟨Nat.le_of_ble_eq_true rfl, Nat.le_of_ble_eq_true rfl⟩ dX11_connect_2) ?_
  refine v_ifeq C 17 dX11_connect_5 (by decide) h (fun _ h => ?_) (fun _ h => ?_)
  · refine v_iconst C (-1 : Int32) dX11_connect_17 (by decide) ?_
    exact v_iret C dX11_connect_18 (Prod.mk.inj (Option.some.inj h)).2 (Prod.mk.inj (Option.some.inj h)).1
  · refine v_iload_n C 3 dX11_connect_8 rfl rfl ?_
    refine v_iload C 4 dX11_connect_9 rfl ?_
    obtain ⟨y2, h1, h⟩ := ob_some h
    refine v_goi (rn_S C gcX11_101 (mX11_isPlace h1) ⟨rfl, rfl⟩ rfl ⟨Nat.le_of_ble_eq_true rfl, Nat.le_of_ble_eq_true rfl⟩ (rest := []) rfl (Nat.le_of_ble_eq_true rfl) ⟨Nat.le_of_ble_eq_true rfl, Nat.le_of_ble_eq_true rfl⟩ dX11_connect_11) ?_
    refine v_ifne C 19 dX11_connect_14 (by decide) h (fun _ h => ?_) (fun _ h => ?_)
    · refine v_iload_n C 1 dX11_connect_19 rfl rfl ?_
      refine v_iload_n C 2 dX11_connect_20 rfl rfl ?_
      obtain ⟨y3, h1, h⟩ := ob_some h
      refine v_goi (rn_S C gcX11_105 (mX11_placeOf h1) ⟨rfl, rfl⟩ rfl ⟨Nat.le_of_ble_eq_true rfl, Nat.le_of_ble_eq_true rfl⟩ (rest := []) rfl (Nat.le_of_ble_eq_true rfl) ⟨Nat.le_of_ble_eq_true rfl, Nat.le_of_ble_eq_true rfl⟩ dX11_connect_21) ?_
      refine v_istore C [(5, .int y3), (0, .ref (bs + a0)), (1, .int x1), (2, .int x2), (3, .int x3), (4, .int x4)] dX11_connect_24 (by decide) rfl ?_
      refine v_iload_n C 4 dX11_connect_26 rfl rfl ?_
      refine v_iload C 5 dX11_connect_27 rfl ?_
      obtain ⟨y4, h1, h⟩ := ob_some h
      refine v_goi (rn_S C gcX11_105 (mX11_placeOf h1) ⟨rfl, rfl⟩ rfl ⟨Nat.le_of_ble_eq_true rfl, Nat.le_of_ble_eq_true rfl⟩ (rest := []) rfl (Nat.le_of_ble_eq_true rfl) ⟨Nat.le_of_ble_eq_true rfl, Nat.le_of_ble_eq_true rfl⟩ dX11_connect_29) ?_
      refine v_istore C [(6, .int y4), (5, .int y3), (0, .ref (bs + a0)), (1, .int x1), (2, .int x2), (3, .int x3), (4, .int x4)] dX11_connect_32 (by decide) rfl ?_
      refine v_iload C 1 dX11_connect_34 rfl ?_
      refine v_iload C 0 dX11_connect_36 rfl ?_
      refine v_icmpeq C 69 dX11_connect_38 (by decide) h (fun _ h => ?_) (fun _ h => ?_)
      · refine v_bipush C (-4 : Int32) dX11_connect_69 (by decide) ?_
        exact v_iret C dX11_connect_71 (Prod.mk.inj (Option.some.inj h)).2 (Prod.mk.inj (Option.some.inj h)).1
      · refine v_aload_n C 2 dX11_connect_41 rfl rfl ?_
        refine v_getR C fdX11_14 dX11_connect_42 h (fun b5 h => ?_)
        refine v_getR C fdX11_109 dX11_connect_45 h (fun b6 h => ?_)
        refine v_iload C 1 dX11_connect_48 rfl ?_
        refine v_ldI C dX11_connect_50 h (fun y7 h => ?_)
        refine v_iconst C (-1 : Int32) dX11_connect_51 (by decide) ?_
        refine v_icmpne C 69 dX11_connect_52 (by decide) h (fun _ h => ?_) (fun _ h => ?_)
        · refine v_bipush C (-4 : Int32) dX11_connect_69 (by decide) ?_
          exact v_iret C dX11_connect_71 (Prod.mk.inj (Option.some.inj h)).2 (Prod.mk.inj (Option.some.inj h)).1
        · refine v_aload_n C 2 dX11_connect_55 rfl rfl ?_
          refine v_getR C fdX11_14 dX11_connect_56 h (fun b8 h => ?_)
          refine v_getR C fdX11_109 dX11_connect_59 h (fun b9 h => ?_)
          refine v_iload C 0 dX11_connect_62 rfl ?_
          refine v_ldI C dX11_connect_64 h (fun y10 h => ?_)
          refine v_iconst C (-1 : Int32) dX11_connect_65 (by decide) ?_
          refine v_icmpeq C 72 dX11_connect_66 (by decide) h (fun _ h => ?_) (fun _ h => ?_)
          · refine v_aload_n C 2 dX11_connect_72 rfl rfl ?_
            refine v_getR C fdX11_14 dX11_connect_73 h (fun b11 h => ?_)
            refine v_getR C fdX11_109 dX11_connect_76 h (fun b12 h => ?_)
            refine v_iload C 1 dX11_connect_79 rfl ?_
            refine v_iload C 0 dX11_connect_81 rfl ?_
            refine v_stI C dX11_connect_83 h (fun u13 h => ?_)
            refine v_aload_n C 2 dX11_connect_84 rfl rfl ?_
            refine v_getR C fdX11_14 dX11_connect_85 h (fun b14 h => ?_)
            refine v_getR C fdX11_109 dX11_connect_88 h (fun b15 h => ?_)
            refine v_iload C 0 dX11_connect_91 rfl ?_
            refine v_iload C 1 dX11_connect_93 rfl ?_
            refine v_stI C dX11_connect_95 h (fun u16 h => ?_)
            refine v_aload_n C 2 dX11_connect_96 rfl rfl ?_
            refine v_getR C fdX11_14 dX11_connect_97 h (fun b17 h => ?_)
            refine v_dup C dX11_connect_100 rfl ?_
            refine v_getI C fdX11_113 dX11_connect_101 h (fun y18 h => ?_)
            refine v_iconst C (1 : Int32) dX11_connect_104 (by decide) ?_
            refine v_iadd C dX11_connect_105 ?_
            refine v_putI C fdX11_113 (fun h => by cases h) dX11_connect_106 h (fun u19 h => ?_)
            refine v_aload_n C 2 dX11_connect_109 rfl rfl ?_
            refine v_getR C fdX11_14 dX11_connect_110 h (fun b20 h => ?_)
            refine v_getI C fdX11_113 dX11_connect_113 h (fun y21 h => ?_)
            exact v_iret C dX11_connect_116 (Prod.mk.inj (Option.some.inj h)).2 (Prod.mk.inj (Option.some.inj h)).1
          · refine v_bipush C (-4 : Int32) dX11_connect_69 (by decide) ?_
            exact v_iret C dX11_connect_71 (Prod.mk.inj (Option.some.inj h)).2 (Prod.mk.inj (Option.some.inj h)).1
    · refine v_iconst C (-1 : Int32) dX11_connect_17 (by decide) ?_
      exact v_iret C dX11_connect_18 (Prod.mk.inj (Option.some.inj h)).2 (Prod.mk.inj (Option.some.inj h)).1
set_option maxRecDepth 100000 in
set_option maxHeartbeats 4000000 in
theorem mX11_disconnect {l : Launch} {D : UD} {bs : Nat} {a0 : Nat} {x1 : Int32} {x2 : Int32} {u0 : UH} {r : Int32} {v : UH} (h : fX11_disconnect a0 x1 x2 u0 = some (r, v)) : Met l yX11_disconnect (wz yX11_disconnect cX11_disconnect 5 (some .int)) rmX11_disconnect (va_Pc [.ref (bs + a0), .int x1, .int x2] (uIn D bs u0)) (uQi D bs u0 v r) 0 0 (uA bs u0) := by
  refine uMet (by decide) (Nat.le_of_ble_eq_true rfl) ?_
  intro X tw hX C hin
  have C : uCx X D bs tw cX11_disconnect 5 RX11 (some .int) := C
  have hin : X.2.2.2.2.2.2.2.1.name = "disconnect" := hin
  refine v_L [(0, .ref (bs + a0)), (1, .int x1), (2, .int x2)] rfl ?_
  unfold fX11_disconnect at h
  refine v_iload_n C 1 dX11_disconnect_0 rfl rfl ?_
  refine v_iload_n C 2 dX11_disconnect_1 rfl rfl ?_
  obtain ⟨y1, h1, h⟩ := ob_some h
  refine v_goi (rn_S C gcX11_101 (mX11_isPlace h1) ⟨rfl, rfl⟩ rfl ⟨Nat.le_of_ble_eq_true rfl, Nat.le_of_ble_eq_true rfl⟩ (rest := []) rfl (Nat.le_of_ble_eq_true rfl) ⟨Nat.le_of_ble_eq_true rfl, Nat.le_of_ble_eq_true rfl⟩ dX11_disconnect_2) ?_
  refine v_ifne C 10 dX11_disconnect_5 (by decide) h (fun _ h => ?_) (fun _ h => ?_)
  · refine v_iload_n C 1 dX11_disconnect_10 rfl rfl ?_
    refine v_iload_n C 2 dX11_disconnect_11 rfl rfl ?_
    obtain ⟨y2, h1, h⟩ := ob_some h
    refine v_goi (rn_S C gcX11_105 (mX11_placeOf h1) ⟨rfl, rfl⟩ rfl ⟨Nat.le_of_ble_eq_true rfl, Nat.le_of_ble_eq_true rfl⟩ (rest := []) rfl (Nat.le_of_ble_eq_true rfl) ⟨Nat.le_of_ble_eq_true rfl, Nat.le_of_ble_eq_true rfl⟩ dX11_disconnect_12) ?_
    refine v_istore_n C [(3, .int y2), (0, .ref (bs + a0)), (1, .int x1), (2, .int x2)] dX11_disconnect_15 rfl (by decide) rfl ?_
    refine v_aload_n C 1 dX11_disconnect_16 rfl rfl ?_
    refine v_getR C fdX11_14 dX11_disconnect_17 h (fun b3 h => ?_)
    refine v_getR C fdX11_109 dX11_disconnect_20 h (fun b4 h => ?_)
    refine v_iload_n C 0 dX11_disconnect_23 rfl rfl ?_
    refine v_ldI C dX11_disconnect_24 h (fun y5 h => ?_)
    refine v_istore C [(4, .int y5), (3, .int y2), (0, .ref (bs + a0)), (1, .int x1), (2, .int x2)] dX11_disconnect_25 (by decide) rfl ?_
    refine v_iload C 0 dX11_disconnect_27 rfl ?_
    refine v_iconst C (-1 : Int32) dX11_disconnect_29 (by decide) ?_
    refine v_icmpne C 36 dX11_disconnect_30 (by decide) h (fun _ h => ?_) (fun _ h => ?_)
    · refine v_aload_n C 2 dX11_disconnect_36 rfl rfl ?_
      refine v_getR C fdX11_14 dX11_disconnect_37 h (fun b6 h => ?_)
      refine v_getR C fdX11_109 dX11_disconnect_40 h (fun b7 h => ?_)
      refine v_iload_n C 1 dX11_disconnect_43 rfl rfl ?_
      refine v_iconst C (-1 : Int32) dX11_disconnect_44 (by decide) ?_
      refine v_stI C dX11_disconnect_45 h (fun u8 h => ?_)
      refine v_aload_n C 2 dX11_disconnect_46 rfl rfl ?_
      refine v_getR C fdX11_14 dX11_disconnect_47 h (fun b9 h => ?_)
      refine v_getR C fdX11_109 dX11_disconnect_50 h (fun b10 h => ?_)
      refine v_iload C 0 dX11_disconnect_53 rfl ?_
      refine v_iconst C (-1 : Int32) dX11_disconnect_55 (by decide) ?_
      refine v_stI C dX11_disconnect_56 h (fun u11 h => ?_)
      refine v_aload_n C 2 dX11_disconnect_57 rfl rfl ?_
      refine v_getR C fdX11_14 dX11_disconnect_58 h (fun b12 h => ?_)
      refine v_dup C dX11_disconnect_61 rfl ?_
      refine v_getI C fdX11_113 dX11_disconnect_62 h (fun y13 h => ?_)
      refine v_iconst C (1 : Int32) dX11_disconnect_65 (by decide) ?_
      refine v_isub C dX11_disconnect_66 ?_
      refine v_putI C fdX11_113 (fun h => by cases h) dX11_disconnect_67 h (fun u14 h => ?_)
      refine v_aload_n C 2 dX11_disconnect_70 rfl rfl ?_
      refine v_getR C fdX11_14 dX11_disconnect_71 h (fun b15 h => ?_)
      refine v_getI C fdX11_113 dX11_disconnect_74 h (fun y16 h => ?_)
      exact v_iret C dX11_disconnect_77 (Prod.mk.inj (Option.some.inj h)).2 (Prod.mk.inj (Option.some.inj h)).1
    · refine v_bipush C (-6 : Int32) dX11_disconnect_33 (by decide) ?_
      exact v_iret C dX11_disconnect_35 (Prod.mk.inj (Option.some.inj h)).2 (Prod.mk.inj (Option.some.inj h)).1
  · refine v_iconst C (-1 : Int32) dX11_disconnect_8 (by decide) ?_
    exact v_iret C dX11_disconnect_9 (Prod.mk.inj (Option.some.inj h)).2 (Prod.mk.inj (Option.some.inj h)).1
set_option maxRecDepth 100000 in
set_option maxHeartbeats 4000000 in
theorem mX11_other {l : Launch} {D : UD} {bs : Nat} {a0 : Nat} {x1 : Int32} {x2 : Int32} {u0 : UH} {r : Int32} (h : fX11_other a0 x1 x2 u0 = some r) : Met l yX11_other (wz yX11_other cX11_other 4 (some .int)) rmX11_other (va_Pc [.ref (bs + a0), .int x1, .int x2] (uIn D bs u0)) (uQi D bs u0 u0 r) 0 0 (uA bs u0) := by
  refine uMet (by decide) (Nat.le_of_ble_eq_true rfl) ?_
  intro X tw hX C hin
  have C : uCx X D bs tw cX11_other 4 RX11 (some .int) := C
  have hin : X.2.2.2.2.2.2.2.1.name = "other" := hin
  refine v_L [(0, .ref (bs + a0)), (1, .int x1), (2, .int x2)] rfl ?_
  unfold fX11_other at h
  refine v_iload_n C 1 dX11_other_0 rfl rfl ?_
  refine v_iload_n C 2 dX11_other_1 rfl rfl ?_
  obtain ⟨y1, h1, h⟩ := ob_some h
  refine v_goi (rn_S C gcX11_101 (mX11_isPlace h1) ⟨rfl, rfl⟩ rfl ⟨Nat.le_of_ble_eq_true rfl, Nat.le_of_ble_eq_true rfl⟩ (rest := []) rfl (Nat.le_of_ble_eq_true rfl) ⟨Nat.le_of_ble_eq_true rfl, Nat.le_of_ble_eq_true rfl⟩ dX11_other_2) ?_
  refine v_ifne C 10 dX11_other_5 (by decide) h (fun _ h => ?_) (fun _ h => ?_)
  · refine v_aload_n C 0 dX11_other_10 rfl rfl ?_
    refine v_getR C fdX11_14 dX11_other_11 h (fun b2 h => ?_)
    refine v_getR C fdX11_109 dX11_other_14 h (fun b3 h => ?_)
    refine v_iload_n C 1 dX11_other_17 rfl rfl ?_
    refine v_iload_n C 2 dX11_other_18 rfl rfl ?_
    obtain ⟨y4, h1, h⟩ := ob_some h
    refine v_goi (rn_S C gcX11_105 (mX11_placeOf h1) ⟨rfl, rfl⟩ rfl ⟨Nat.le_of_ble_eq_true rfl, Nat.le_of_ble_eq_true rfl⟩ (rest := [.ref (bs + b3)]) rfl (Nat.le_of_ble_eq_true rfl) ⟨Nat.le_of_ble_eq_true rfl, Nat.le_of_ble_eq_true rfl⟩ dX11_other_19) ?_
    refine v_ldI C dX11_other_22 h (fun y5 h => ?_)
    refine v_istore_n C [(3, .int y5), (0, .ref (bs + a0)), (1, .int x1), (2, .int x2)] dX11_other_23 rfl (by decide) rfl ?_
    refine v_iload_n C 0 dX11_other_24 rfl rfl ?_
    refine v_iconst C (-1 : Int32) dX11_other_25 (by decide) ?_
    refine v_icmpne C 34 dX11_other_26 (by decide) h (fun _ h => ?_) (fun _ h => ?_)
    · refine v_bipush C (10 : Int32) dX11_other_34 (by decide) ?_
      refine v_iload_n C 0 dX11_other_36 rfl rfl ?_
      refine v_iconst C (4 : Int32) dX11_other_37 (by decide) ?_
      refine v_idiv C dX11_other_38 (by decide) ?_
      refine v_imul C dX11_other_39 ?_
      refine v_iload_n C 0 dX11_other_40 rfl rfl ?_
      refine v_iconst C (4 : Int32) dX11_other_41 (by decide) ?_
      refine v_irem C dX11_other_42 (by decide) ?_
      refine v_iadd C dX11_other_43 ?_
      exact v_iret C dX11_other_44 rfl (Option.some.inj h)
    · refine v_bipush C (-6 : Int32) dX11_other_29 (by decide) ?_
      refine v_goto C 44 dX11_other_31 (by decide) ?_
      exact v_iret C dX11_other_44 rfl (Option.some.inj h)
  · refine v_iconst C (-1 : Int32) dX11_other_8 (by decide) ?_
    exact v_iret C dX11_other_9 rfl (Option.some.inj h)
set_option maxRecDepth 100000 in
set_option maxHeartbeats 4000000 in
theorem mX11_isPortSet {l : Launch} {D : UD} {bs : Nat} {x0 : Int32} {u0 : UH} {r : Int32} (h : fX11_isPortSet x0 u0 = some r) : Met l yX11_isPortSet (wz yX11_isPortSet cX11_isPortSet 1 (some .boolean)) rmX11_isPortSet (va_Pc [.int x0] (uIn D bs u0)) (uQi D bs u0 u0 r) 0 0 (uA bs u0) := by
  refine uMet (by decide) (Nat.le_of_ble_eq_true rfl) ?_
  intro X tw hX C hin
  have C : uCx X D bs tw cX11_isPortSet 1 RX11 (some .boolean) := C
  have hin : X.2.2.2.2.2.2.2.1.name = "isPortSet" := hin
  refine v_L [(0, .int x0)] rfl ?_
  unfold fX11_isPortSet at h
  refine v_iload_n C 0 dX11_isPortSet_0 rfl rfl ?_
  refine v_iconst C (1 : Int32) dX11_isPortSet_1 (by decide) ?_
  refine v_icmplt C 15 dX11_isPortSet_2 (by decide) h (fun _ h => ?_) (fun _ h => ?_)
  · refine v_iconst C (0 : Int32) dX11_isPortSet_15 (by decide) ?_
    exact v_zret C dX11_isPortSet_16 rfl (Option.some.inj h) rfl
  · refine v_iload_n C 0 dX11_isPortSet_5 rfl rfl ?_
    refine v_bipush C (15 : Int32) dX11_isPortSet_6 (by decide) ?_
    refine v_icmpgt C 15 dX11_isPortSet_8 (by decide) h (fun _ h => ?_) (fun _ h => ?_)
    · refine v_iconst C (0 : Int32) dX11_isPortSet_15 (by decide) ?_
      exact v_zret C dX11_isPortSet_16 rfl (Option.some.inj h) rfl
    · refine v_iconst C (1 : Int32) dX11_isPortSet_11 (by decide) ?_
      refine v_goto C 16 dX11_isPortSet_12 (by decide) ?_
      exact v_zret C dX11_isPortSet_16 rfl (Option.some.inj h) rfl
set_option maxRecDepth 100000 in
set_option maxHeartbeats 4000000 in
theorem mX4_isHeader {l : Launch} {D : UD} {bs : Nat} {a0 : Nat} {x1 : Int32} {u0 : UH} {r : Int32} (h : fX4_isHeader a0 x1 u0 = some r) : Met l yX4_isHeader (wz yX4_isHeader cX4_isHeader 2 (some .boolean)) rmX4_isHeader (va_Pc [.ref (bs + a0), .int x1] (uIn D bs u0)) (uQi D bs u0 u0 r) 0 0 (uA bs u0) := by
  refine uMet (by decide) (Nat.le_of_ble_eq_true rfl) ?_
  intro X tw hX C hin
  have C : uCx X D bs tw cX4_isHeader 2 RX4 (some .boolean) := C
  have hin : X.2.2.2.2.2.2.2.1.name = "isHeader" := hin
  refine v_L [(0, .ref (bs + a0)), (1, .int x1)] rfl ?_
  unfold fX4_isHeader at h
  refine v_iload_n C 1 dX4_isHeader_0 rfl rfl ?_
  refine v_iflt C 18 dX4_isHeader_1 (by decide) h (fun _ h => ?_) (fun _ h => ?_)
  · refine v_iconst C (0 : Int32) dX4_isHeader_18 (by decide) ?_
    exact v_zret C dX4_isHeader_19 rfl (Option.some.inj h) rfl
  · refine v_iload_n C 1 dX4_isHeader_4 rfl rfl ?_
    refine v_iconst C (1 : Int32) dX4_isHeader_5 (by decide) ?_
    refine v_aload_n C 0 dX4_isHeader_6 rfl rfl ?_
    refine v_getI C fdX4_33 dX4_isHeader_7 h (fun y1 h => ?_)
    refine v_ishl C dX4_isHeader_10 ?_
    refine v_icmpge C 18 dX4_isHeader_11 (by decide) h (fun _ h => ?_) (fun _ h => ?_)
    · refine v_iconst C (0 : Int32) dX4_isHeader_18 (by decide) ?_
      exact v_zret C dX4_isHeader_19 rfl (Option.some.inj h) rfl
    · refine v_iconst C (1 : Int32) dX4_isHeader_14 (by decide) ?_
      refine v_goto C 19 dX4_isHeader_15 (by decide) ?_
      exact v_zret C dX4_isHeader_19 rfl (Option.some.inj h) rfl
set_option maxRecDepth 100000 in
set_option maxHeartbeats 4000000 in
theorem mX4_isCube {l : Launch} {D : UD} {bs : Nat} {a0 : Nat} {x1 : Int32} {x2 : Int32} {u0 : UH} {r : Int32} (h : fX4_isCube a0 x1 x2 u0 = some r) : Met l yX4_isCube (wz yX4_isCube cX4_isCube 3 (some .boolean)) rmX4_isCube (va_Pc [.ref (bs + a0), .int x1, .int x2] (uIn D bs u0)) (uQi D bs u0 u0 r) 0 0 (uA bs u0) := by
  refine uMet (by decide) (Nat.le_of_ble_eq_true rfl) ?_
  intro X tw hX C hin
  have C : uCx X D bs tw cX4_isCube 3 RX4 (some .boolean) := C
  have hin : X.2.2.2.2.2.2.2.1.name = "isCube" := hin
  refine v_L [(0, .ref (bs + a0)), (1, .int x1), (2, .int x2)] rfl ?_
  unfold fX4_isCube at h
  refine v_aload_n C 0 dX4_isCube_0 rfl rfl ?_
  refine v_iload_n C 1 dX4_isCube_1 rfl rfl ?_
  obtain ⟨y1, h1, h⟩ := ob_some h
  obtain ⟨hkd, h1⟩ := kd_some h1
  refine v_goi (rn_V C gcX4_49 (RX4, TX4, 4) rfl rfl (by decide) hkd (mX4_isHeader h1) ⟨rfl, rfl⟩ rfl ⟨Nat.le_of_ble_eq_true rfl, Nat.le_of_ble_eq_true rfl⟩ (rest := []) rfl (Nat.le_of_ble_eq_true rfl) ⟨Nat.le_of_ble_eq_true rfl, Nat.le_of_ble_eq_true rfl⟩ dX4_isCube_2) ?_
  refine v_ifeq C 20 dX4_isCube_5 (by decide) h (fun _ h => ?_) (fun _ h => ?_)
  · refine v_iconst C (0 : Int32) dX4_isCube_20 (by decide) ?_
    exact v_zret C dX4_isCube_21 rfl (Option.some.inj h) rfl
  · refine v_aload_n C 0 dX4_isCube_8 rfl rfl ?_
    refine v_iload_n C 2 dX4_isCube_9 rfl rfl ?_
    obtain ⟨y2, h1, h⟩ := ob_some h
    obtain ⟨hkd, h1⟩ := kd_some h1
    refine v_goi (rn_V C gcX4_49 (RX4, TX4, 4) rfl rfl (by decide) hkd (mX4_isHeader h1) ⟨rfl, rfl⟩ rfl ⟨Nat.le_of_ble_eq_true rfl, Nat.le_of_ble_eq_true rfl⟩ (rest := []) rfl (Nat.le_of_ble_eq_true rfl) ⟨Nat.le_of_ble_eq_true rfl, Nat.le_of_ble_eq_true rfl⟩ dX4_isCube_10) ?_
    refine v_ifeq C 20 dX4_isCube_13 (by decide) h (fun _ h => ?_) (fun _ h => ?_)
    · refine v_iconst C (0 : Int32) dX4_isCube_20 (by decide) ?_
      exact v_zret C dX4_isCube_21 rfl (Option.some.inj h) rfl
    · refine v_iconst C (1 : Int32) dX4_isCube_16 (by decide) ?_
      refine v_goto C 21 dX4_isCube_17 (by decide) ?_
      exact v_zret C dX4_isCube_21 rfl (Option.some.inj h) rfl
set_option maxRecDepth 100000 in
set_option maxHeartbeats 4000000 in
theorem mX11_isInsertable {l : Launch} {D : UD} {bs : Nat} {a0 : Nat} {x1 : Int32} {x2 : Int32} {x3 : Int32} {x4 : Int32} {x5 : Int32} {u0 : UH} {r : Int32} (h : fX11_isInsertable a0 x1 x2 x3 x4 x5 u0 = some r) : Met l yX11_isInsertable (wz yX11_isInsertable cX11_isInsertable 6 (some .boolean)) rmX11_isInsertable (va_Pc [.ref (bs + a0), .int x1, .int x2, .int x3, .int x4, .int x5] (uIn D bs u0)) (uQi D bs u0 u0 r) 0 0 (uA bs u0) := by
  refine uMet (by decide) (Nat.le_of_ble_eq_true rfl) ?_
  intro X tw hX C hin
  have C : uCx X D bs tw cX11_isInsertable 6 RX11 (some .boolean) := C
  have hin : X.2.2.2.2.2.2.2.1.name = "isInsertable" := hin
  refine v_L [(0, .ref (bs + a0)), (1, .int x1), (2, .int x2), (3, .int x3), (4, .int x4), (5, .int x5)] rfl ?_
  unfold fX11_isInsertable at h
  refine v_iload_n C 2 dX11_isInsertable_0 rfl rfl ?_
  refine v_iflt C 45 dX11_isInsertable_1 (by decide) h (fun _ h => ?_) (fun _ h => ?_)
  · refine v_iconst C (0 : Int32) dX11_isInsertable_45 (by decide) ?_
    exact v_zret C dX11_isInsertable_46 rfl (Option.some.inj h) rfl
  · refine v_iload_n C 2 dX11_isInsertable_4 rfl rfl ?_
    refine v_aload_n C 0 dX11_isInsertable_5 rfl rfl ?_
    refine v_getR C fdX11_14 dX11_isInsertable_6 h (fun b1 h => ?_)
    refine v_getR C fdX11_142 dX11_isInsertable_9 h (fun b2 h => ?_)
    refine v_iload_n C 1 dX11_isInsertable_12 rfl rfl ?_
    refine v_ldR C 26 _ rfl (by decide) dX11_isInsertable_13 h (fun b3 h => ?_)
    refine v_getI C fdX11_176 dX11_isInsertable_14 h (fun y4 h => ?_)
    refine v_icmpgt C 45 dX11_isInsertable_17 (by decide) h (fun _ h => ?_) (fun _ h => ?_)
    · refine v_iconst C (0 : Int32) dX11_isInsertable_45 (by decide) ?_
      exact v_zret C dX11_isInsertable_46 rfl (Option.some.inj h) rfl
    · refine v_iload_n C 3 dX11_isInsertable_20 rfl rfl ?_
      obtain ⟨y5, h1, h⟩ := ob_some h
      refine v_goi (rn_S C gcX11_133 (mX11_isPortSet h1) ⟨rfl, rfl⟩ rfl ⟨Nat.le_of_ble_eq_true rfl, Nat.le_of_ble_eq_true rfl⟩ (rest := []) rfl (Nat.le_of_ble_eq_true rfl) ⟨Nat.le_of_ble_eq_true rfl, Nat.le_of_ble_eq_true rfl⟩ dX11_isInsertable_21) ?_
      refine v_ifeq C 45 dX11_isInsertable_24 (by decide) h (fun _ h => ?_) (fun _ h => ?_)
      · refine v_iconst C (0 : Int32) dX11_isInsertable_45 (by decide) ?_
        exact v_zret C dX11_isInsertable_46 rfl (Option.some.inj h) rfl
      · refine v_aload_n C 0 dX11_isInsertable_27 rfl rfl ?_
        refine v_getR C fdX11_14 dX11_isInsertable_28 h (fun b6 h => ?_)
        refine v_iload C 4 dX11_isInsertable_31 rfl ?_
        refine v_iload C 5 dX11_isInsertable_33 rfl ?_
        obtain ⟨y7, h1, h⟩ := ob_some h
        obtain ⟨hkd, h1⟩ := kd_some h1
        refine v_goi (rn_V C gcX11_139 (RX4, TX4, 4) rfl rfl (by decide) hkd (mX4_isCube h1) ⟨rfl, rfl⟩ rfl ⟨Nat.le_of_ble_eq_true rfl, Nat.le_of_ble_eq_true rfl⟩ (rest := []) rfl (Nat.le_of_ble_eq_true rfl) ⟨Nat.le_of_ble_eq_true rfl, Nat.le_of_ble_eq_true rfl⟩ dX11_isInsertable_35) ?_
        refine v_ifeq C 45 dX11_isInsertable_38 (by decide) h (fun _ h => ?_) (fun _ h => ?_)
        · refine v_iconst C (0 : Int32) dX11_isInsertable_45 (by decide) ?_
          exact v_zret C dX11_isInsertable_46 rfl (Option.some.inj h) rfl
        · refine v_iconst C (1 : Int32) dX11_isInsertable_41 (by decide) ?_
          refine v_goto C 46 dX11_isInsertable_42 (by decide) ?_
          exact v_zret C dX11_isInsertable_46 rfl (Option.some.inj h) rfl
set_option maxRecDepth 100000 in
set_option maxHeartbeats 4000000 in
theorem wX7_copyFrom_B2 {X : UX} {D : UD} {bs tw : Nat} {u0 : UH} {v : UH} (C : uCx X D bs tw cX7_copyFrom 3 RX7 none) (hin : X.2.2.2.2.2.2.2.1.name = "copyFrom") {a0 : Nat} {a1 : Nat}  {G : UH → Prop} {k : Int32 → UH → Option UH} (hk : ∀ (x2 : Int32) (u' : UH) e, k x2 u' = some e → G e → VV X D bs u0 rmX7_copyFrom 3 0 0 (MQ X.2.2.2.2.2.2.1 (uQv D bs u0 v) X.2.2.2.2.2.1 X.2.2.2.1 0 0 (uA bs u0)) u' 2 [(0, .ref (bs + a0)), (1, .ref (bs + a1)), (2, .int x2)] []) (hex : ∀  (u' : UH), G u' → VV X D bs u0 rmX7_copyFrom 3 0 0 (MQ X.2.2.2.2.2.2.1 (uQv D bs u0 v) X.2.2.2.2.2.1 X.2.2.2.1 0 0 (uA bs u0)) u' 26 [(0, .ref (bs + a0)), (1, .ref (bs + a1))] [])  : ∀ (x2 : Int32) (u : UH) e, fX7_copyFrom_B2 a0 a1  k x2 u = some e → G e → VV X D bs u0 rmX7_copyFrom 3 0 0 (MQ X.2.2.2.2.2.2.1 (uQv D bs u0 v) X.2.2.2.2.2.1 X.2.2.2.1 0 0 (uA bs u0)) u 2 [(0, .ref (bs + a0)), (1, .ref (bs + a1)), (2, .int x2)] [] := by
  intro x2 u e h g
  unfold fX7_copyFrom_B2 at h
  refine v_iload_n C 2 dX7_copyFrom_2 rfl rfl ?_
  refine v_bipush C (6 : Int32) dX7_copyFrom_3 (by decide) ?_
  refine v_icmpge C 26 dX7_copyFrom_5 (by decide) h (fun _ h => ?_) (fun _ h => ?_)
  · refine v_sub [(0, .ref (bs + a0)), (1, .ref (bs + a1))] [0, 1] rfl ?_
    exact hex u ((Option.some.inj h).symm ▸ g)
  · refine v_aload_n C 0 dX7_copyFrom_8 rfl rfl ?_
    refine v_getR C fdX7_11 dX7_copyFrom_9 h (fun b1 h => ?_)
    refine v_iload_n C 2 dX7_copyFrom_12 rfl rfl ?_
    refine v_aload_n C 1 dX7_copyFrom_13 rfl rfl ?_
    refine v_getR C fdX7_11 dX7_copyFrom_14 h (fun b2 h => ?_)
    refine v_iload_n C 2 dX7_copyFrom_17 rfl rfl ?_
    refine v_ldR C 25 _ rfl (by decide) dX7_copyFrom_18 h (fun b3 h => ?_)
    refine v_stR C 25 6 (RX6, TX6, 8) rfl rfl (by decide) (by decide) dX7_copyFrom_19 h (fun u4 h => ?_)
    refine v_iinc C 2 (x2 + (1 : Int32)) [(2, .int (x2 + (1 : Int32))), (0, .ref (bs + a0)), (1, .ref (bs + a1))] dX7_copyFrom_20 rfl rfl (by decide) rfl ?_
    refine v_goto C 2 dX7_copyFrom_23 (by decide) ?_
    refine v_sub [(0, .ref (bs + a0)), (1, .ref (bs + a1)), (2, .int (x2 + (1 : Int32)))] [1, 2, 0] rfl ?_
    exact hk (x2 + (1 : Int32)) u4 _ h g
set_option maxRecDepth 100000 in
set_option maxHeartbeats 4000000 in
theorem mX7_copyFrom {l : Launch} {D : UD} {bs : Nat} {a0 : Nat} {a1 : Nat} {u0 : UH} {v : UH} (h : fX7_copyFrom a0 a1 u0 = some v) : Met l yX7_copyFrom (wz yX7_copyFrom cX7_copyFrom 3 none) rmX7_copyFrom (va_Pc [.ref (bs + a0), .ref (bs + a1)] (uIn D bs u0)) (uQv D bs u0 v) 0 0 (uA bs u0) := by
  refine uMet (by decide) (Nat.le_of_ble_eq_true rfl) ?_
  intro X tw hX C hin
  have C : uCx X D bs tw cX7_copyFrom 3 RX7 none := C
  have hin : X.2.2.2.2.2.2.2.1.name = "copyFrom" := hin
  refine v_L [(0, .ref (bs + a0)), (1, .ref (bs + a1))] rfl ?_
  unfold fX7_copyFrom at h
  refine v_iconst C (0 : Int32) dX7_copyFrom_0 (by decide) ?_
  refine v_istore_n C [(2, .int (0 : Int32)), (0, .ref (bs + a0)), (1, .ref (bs + a1))] dX7_copyFrom_1 rfl (by decide) rfl ?_
  refine v_sub [(0, .ref (bs + a0)), (1, .ref (bs + a1)), (2, .int (0 : Int32))] [1, 2, 0] rfl ?_
  refine it2_O (V := fun x2 u' => VV X D bs u0 rmX7_copyFrom 3 0 0 (MQ X.2.2.2.2.2.2.1 (uQv D bs u0 v) X.2.2.2.2.2.1 X.2.2.2.1 0 0 (uA bs u0)) u' 2 [(0, .ref (bs + a0)), (1, .ref (bs + a1)), (2, .int x2)] []) h (fun k_ hk_ => wX7_copyFrom_B2 C hin hk_ ?_ )
  intro z6 h
  try dsimp only [Sum.elim_inl] at h
  refine v_aload_n C 0 dX7_copyFrom_26 rfl rfl ?_
  refine v_aload_n C 1 dX7_copyFrom_27 rfl rfl ?_
  refine v_getI C fdX7_17 dX7_copyFrom_28 h (fun y7 h => ?_)
  refine v_putI C fdX7_17 (fun h => by cases h) dX7_copyFrom_31 h (fun u8 h => ?_)
  exact v_vret C dX7_copyFrom_34 (Option.some.inj h)
set_option maxRecDepth 100000 in
set_option maxHeartbeats 4000000 in
theorem mX3_keep {l : Launch} {D : UD} {bs : Nat} {a0 : Nat} {x1 : Int32} {a2 : Nat} {u0 : UH} {v : UH} (h : fX3_keep a0 x1 a2 u0 = some v) : Met l yX3_keep (wz yX3_keep cX3_keep 3 none) rmX3_keep (va_Pc [.ref (bs + a0), .int x1, .ref (bs + a2)] (uIn D bs u0)) (uQv D bs u0 v) 0 0 (uA bs u0) := by
  refine uMet (by decide) (Nat.le_of_ble_eq_true rfl) ?_
  intro X tw hX C hin
  have C : uCx X D bs tw cX3_keep 3 RX3 none := C
  have hin : X.2.2.2.2.2.2.2.1.name = "keep" := hin
  refine v_L [(0, .ref (bs + a0)), (1, .int x1), (2, .ref (bs + a2))] rfl ?_
  unfold fX3_keep at h
  refine v_aload_n C 0 dX3_keep_0 rfl rfl ?_
  refine v_getR C fdX3_11 dX3_keep_1 h (fun b1 h => ?_)
  refine v_aload_n C 0 dX3_keep_4 rfl rfl ?_
  refine v_getI C fdX3_29 dX3_keep_5 h (fun y2 h => ?_)
  refine v_ldR C 26 _ rfl (by decide) dX3_keep_8 h (fun b3 h => ?_)
  refine v_aload_n C 2 dX3_keep_9 rfl rfl ?_
  obtain ⟨u4, h1, h⟩ := ob_some h
  obtain ⟨hkd, h1⟩ := kd_some h1
  refine v_gov (rn_V C gcX3_33 (RX7, TX7, 2) rfl rfl (by decide) hkd (mX7_copyFrom h1) ⟨rfl, rfl⟩ rfl ⟨Nat.le_of_ble_eq_true rfl, Nat.le_of_ble_eq_true rfl⟩ (rest := []) rfl (Nat.le_of_ble_eq_true rfl) ⟨Nat.le_of_ble_eq_true rfl, Nat.le_of_ble_eq_true rfl⟩ dX3_keep_10) ?_
  refine v_aload_n C 0 dX3_keep_13 rfl rfl ?_
  refine v_getR C fdX3_17 dX3_keep_14 h (fun b5 h => ?_)
  refine v_aload_n C 0 dX3_keep_17 rfl rfl ?_
  refine v_getI C fdX3_29 dX3_keep_18 h (fun y6 h => ?_)
  refine v_iload_n C 1 dX3_keep_21 rfl rfl ?_
  refine v_stI C dX3_keep_22 h (fun u7 h => ?_)
  refine v_aload_n C 0 dX3_keep_23 rfl rfl ?_
  refine v_aload_n C 0 dX3_keep_24 rfl rfl ?_
  refine v_getI C fdX3_29 dX3_keep_25 h (fun y8 h => ?_)
  refine v_iconst C (1 : Int32) dX3_keep_28 (by decide) ?_
  refine v_iadd C dX3_keep_29 ?_
  refine v_bipush C (12 : Int32) dX3_keep_30 (by decide) ?_
  refine v_irem C dX3_keep_32 (by decide) ?_
  refine v_putI C fdX3_29 (fun h => by cases h) dX3_keep_33 h (fun u9 h => ?_)
  refine v_aload_n C 0 dX3_keep_36 rfl rfl ?_
  refine v_aload_n C 0 dX3_keep_37 rfl rfl ?_
  refine v_getI C fdX3_37 dX3_keep_38 h (fun y10 h => ?_)
  refine v_iconst C (1 : Int32) dX3_keep_41 (by decide) ?_
  refine v_iadd C dX3_keep_42 ?_
  refine v_bipush C (12 : Int32) dX3_keep_43 (by decide) ?_
  refine v_min C tw444 tw445 tw15 tw446 (Nat.le_of_ble_eq_true rfl) (Nat.le_of_ble_eq_true rfl) (Nat.le_of_ble_eq_true rfl) (Nat.le_of_ble_eq_true rfl) dX3_keep_45 ?_
  refine v_putI C fdX3_37 (fun h => by cases h) dX3_keep_48 h (fun u11 h => ?_)
  exact v_vret C dX3_keep_51 (Option.some.inj h)
set_option maxRecDepth 100000 in
set_option maxHeartbeats 4000000 in
theorem wX7_insertAt_B9 {X : UX} {D : UD} {bs tw : Nat} {u0 : UH} {v : UH} (C : uCx X D bs tw cX7_insertAt 4 RX7 none) (hin : X.2.2.2.2.2.2.2.1.name = "insertAt") {a0 : Nat} {x1 : Int32} {a2 : Nat}  {G : UH → Prop} {k : Int32 → UH → Option UH} (hk : ∀ (x3 : Int32) (u' : UH) e, k x3 u' = some e → G e → VV X D bs u0 rmX7_insertAt 4 0 0 (MQ X.2.2.2.2.2.2.1 (uQv D bs u0 v) X.2.2.2.2.2.1 X.2.2.2.1 0 0 (uA bs u0)) u' 9 [(0, .ref (bs + a0)), (1, .int x1), (2, .ref (bs + a2)), (3, .int x3)] []) (hex : ∀  (u' : UH), G u' → VV X D bs u0 rmX7_insertAt 4 0 0 (MQ X.2.2.2.2.2.2.1 (uQv D bs u0 v) X.2.2.2.2.2.1 X.2.2.2.1 0 0 (uA bs u0)) u' 34 [(0, .ref (bs + a0)), (1, .int x1), (2, .ref (bs + a2))] [])  : ∀ (x3 : Int32) (u : UH) e, fX7_insertAt_B9 a0 x1  k x3 u = some e → G e → VV X D bs u0 rmX7_insertAt 4 0 0 (MQ X.2.2.2.2.2.2.1 (uQv D bs u0 v) X.2.2.2.2.2.1 X.2.2.2.1 0 0 (uA bs u0)) u 9 [(0, .ref (bs + a0)), (1, .int x1), (2, .ref (bs + a2)), (3, .int x3)] [] := by
  intro x3 u e h g
  unfold fX7_insertAt_B9 at h
  refine v_iload_n C 3 dX7_insertAt_9 rfl rfl ?_
  refine v_iload_n C 1 dX7_insertAt_10 rfl rfl ?_
  refine v_icmple C 34 dX7_insertAt_11 (by decide) h (fun _ h => ?_) (fun _ h => ?_)
  · refine v_sub [(0, .ref (bs + a0)), (1, .int x1), (2, .ref (bs + a2))] [0, 1, 2] rfl ?_
    exact hex u ((Option.some.inj h).symm ▸ g)
  · refine v_aload_n C 0 dX7_insertAt_14 rfl rfl ?_
    refine v_getR C fdX7_11 dX7_insertAt_15 h (fun b3 h => ?_)
    refine v_iload_n C 3 dX7_insertAt_18 rfl rfl ?_
    refine v_aload_n C 0 dX7_insertAt_19 rfl rfl ?_
    refine v_getR C fdX7_11 dX7_insertAt_20 h (fun b4 h => ?_)
    refine v_iload_n C 3 dX7_insertAt_23 rfl rfl ?_
    refine v_iconst C (1 : Int32) dX7_insertAt_24 (by decide) ?_
    refine v_isub C dX7_insertAt_25 ?_
    refine v_ldR C 25 _ rfl (by decide) dX7_insertAt_26 h (fun b5 h => ?_)
    refine v_stR C 25 6 (RX6, TX6, 8) rfl rfl (by decide) (by decide) dX7_insertAt_27 h (fun u6 h => ?_)
    refine v_iinc C 3 (x3 + (-1 : Int32)) [(3, .int (x3 + (-1 : Int32))), (0, .ref (bs + a0)), (1, .int x1), (2, .ref (bs + a2))] dX7_insertAt_28 rfl rfl (by decide) rfl ?_
    refine v_goto C 9 dX7_insertAt_31 (by decide) ?_
    refine v_sub [(0, .ref (bs + a0)), (1, .int x1), (2, .ref (bs + a2)), (3, .int (x3 + (-1 : Int32)))] [1, 2, 3, 0] rfl ?_
    exact hk (x3 + (-1 : Int32)) u6 _ h g
set_option maxRecDepth 100000 in
set_option maxHeartbeats 4000000 in
theorem mX7_insertAt {l : Launch} {D : UD} {bs : Nat} {a0 : Nat} {x1 : Int32} {a2 : Nat} {u0 : UH} {v : UH} (h : fX7_insertAt a0 x1 a2 u0 = some v) : Met l yX7_insertAt (wz yX7_insertAt cX7_insertAt 4 none) rmX7_insertAt (va_Pc [.ref (bs + a0), .int x1, .ref (bs + a2)] (uIn D bs u0)) (uQv D bs u0 v) 0 0 (uA bs u0) := by
  refine uMet (by decide) (Nat.le_of_ble_eq_true rfl) ?_
  intro X tw hX C hin
  have C : uCx X D bs tw cX7_insertAt 4 RX7 none := C
  have hin : X.2.2.2.2.2.2.2.1.name = "insertAt" := hin
  refine v_L [(0, .ref (bs + a0)), (1, .int x1), (2, .ref (bs + a2))] rfl ?_
  unfold fX7_insertAt at h
  refine v_aload_n C 0 dX7_insertAt_0 rfl rfl ?_
  refine v_getI C fdX7_17 dX7_insertAt_1 h (fun y1 h => ?_)
  refine v_iconst C (5 : Int32) dX7_insertAt_4 (by decide) ?_
  refine v_min C tw451 tw445 tw15 tw446 (Nat.le_of_ble_eq_true rfl) (Nat.le_of_ble_eq_true rfl) (Nat.le_of_ble_eq_true rfl) (Nat.le_of_ble_eq_true rfl) dX7_insertAt_5 ?_
  refine v_lti h (fun y2 h => ?_)
  refine v_istore_n C [(3, .int y2), (0, .ref (bs + a0)), (1, .int x1), (2, .ref (bs + a2))] dX7_insertAt_8 rfl (by decide) rfl ?_
  refine v_sub [(0, .ref (bs + a0)), (1, .int x1), (2, .ref (bs + a2)), (3, .int y2)] [1, 2, 3, 0] rfl ?_
  refine it2_O (V := fun x3 u' => VV X D bs u0 rmX7_insertAt 4 0 0 (MQ X.2.2.2.2.2.2.1 (uQv D bs u0 v) X.2.2.2.2.2.1 X.2.2.2.1 0 0 (uA bs u0)) u' 9 [(0, .ref (bs + a0)), (1, .int x1), (2, .ref (bs + a2)), (3, .int x3)] []) h (fun k_ hk_ => wX7_insertAt_B9 C hin hk_ ?_ )
  intro z8 h
  try dsimp only [Sum.elim_inl] at h
  refine v_aload_n C 0 dX7_insertAt_34 rfl rfl ?_
  refine v_getR C fdX7_11 dX7_insertAt_35 h (fun b9 h => ?_)
  refine v_iload_n C 1 dX7_insertAt_38 rfl rfl ?_
  refine v_aload_n C 2 dX7_insertAt_39 rfl rfl ?_
  refine v_stR C 25 6 (RX6, TX6, 8) rfl rfl (by decide) (by decide) dX7_insertAt_40 h (fun u10 h => ?_)
  refine v_aload_n C 0 dX7_insertAt_41 rfl rfl ?_
  refine v_dup C dX7_insertAt_42 rfl ?_
  refine v_getI C fdX7_17 dX7_insertAt_43 h (fun y11 h => ?_)
  refine v_iconst C (1 : Int32) dX7_insertAt_46 (by decide) ?_
  refine v_iadd C dX7_insertAt_47 ?_
  refine v_putI C fdX7_17 (fun h => by cases h) dX7_insertAt_48 h (fun u12 h => ?_)
  exact v_vret C dX7_insertAt_51 (Option.some.inj h)
set_option maxRecDepth 100000 in
set_option maxHeartbeats 4000000 in
theorem mX11_insertRule {l : Launch} {D : UD} {bs : Nat} {a0 : Nat} {x1 : Int32} {x2 : Int32} {a3 : Nat} {u0 : UH} {r : Int32} {v : UH} (h : fX11_insertRule a0 x1 x2 a3 u0 = some (r, v)) : Met l yX11_insertRule (wz yX11_insertRule cX11_insertRule 5 (some .int)) rmX11_insertRule (va_Pc [.ref (bs + a0), .int x1, .int x2, .ref (bs + a3)] (uIn D bs u0)) (uQi D bs u0 v r) 0 0 (uA bs u0) := by
  refine uMet (by decide) (Nat.le_of_ble_eq_true rfl) ?_
  intro X tw hX C hin
  have C : uCx X D bs tw cX11_insertRule 5 RX11 (some .int) := C
  have hin : X.2.2.2.2.2.2.2.1.name = "insertRule" := hin
  refine v_L [(0, .ref (bs + a0)), (1, .int x1), (2, .int x2), (3, .ref (bs + a3))] rfl ?_
  unfold fX11_insertRule at h
  refine v_aload_n C 0 dX11_insertRule_0 rfl rfl ?_
  refine v_getR C fdX11_14 dX11_insertRule_1 h (fun b1 h => ?_)
  refine v_getR C fdX11_142 dX11_insertRule_4 h (fun b2 h => ?_)
  refine v_iload_n C 1 dX11_insertRule_7 rfl rfl ?_
  refine v_ldR C 26 _ rfl (by decide) dX11_insertRule_8 h (fun b3 h => ?_)
  refine v_astore C [(4, .ref (bs + b3)), (0, .ref (bs + a0)), (1, .int x1), (2, .int x2), (3, .ref (bs + a3))] dX11_insertRule_9 (by decide) rfl ?_
  refine v_aload C 0 dX11_insertRule_11 rfl ?_
  refine v_getI C fdX11_176 dX11_insertRule_13 h (fun y4 h => ?_)
  refine v_bipush C (6 : Int32) dX11_insertRule_16 (by decide) ?_
  refine v_icmplt C 24 dX11_insertRule_18 (by decide) h (fun _ h => ?_) (fun _ h => ?_)
  · refine v_aload_n C 1 dX11_insertRule_24 rfl rfl ?_
    refine v_getR C fdX11_21 dX11_insertRule_25 h (fun b5 h => ?_)
    refine v_iload_n C 2 dX11_insertRule_28 rfl rfl ?_
    refine v_aload C 0 dX11_insertRule_29 rfl ?_
    obtain ⟨u6, h1, h⟩ := ob_some h
    obtain ⟨hkd, h1⟩ := kd_some h1
    refine v_gov (rn_V C gcX11_169 (RX3, TX3, 4) rfl rfl (by decide) hkd (mX3_keep h1) ⟨rfl, rfl⟩ rfl ⟨Nat.le_of_ble_eq_true rfl, Nat.le_of_ble_eq_true rfl⟩ (rest := []) rfl (Nat.le_of_ble_eq_true rfl) ⟨Nat.le_of_ble_eq_true rfl, Nat.le_of_ble_eq_true rfl⟩ dX11_insertRule_31) ?_
    refine v_aload C 0 dX11_insertRule_34 rfl ?_
    refine v_iload_n C 3 dX11_insertRule_36 rfl rfl ?_
    refine v_aload_n C 4 dX11_insertRule_37 rfl rfl ?_
    obtain ⟨u7, h1, h⟩ := ob_some h
    obtain ⟨hkd, h1⟩ := kd_some h1
    refine v_gov (rn_V C gcX11_177 (RX7, TX7, 2) rfl rfl (by decide) hkd (mX7_insertAt h1) ⟨rfl, rfl⟩ rfl ⟨Nat.le_of_ble_eq_true rfl, Nat.le_of_ble_eq_true rfl⟩ (rest := []) rfl (Nat.le_of_ble_eq_true rfl) ⟨Nat.le_of_ble_eq_true rfl, Nat.le_of_ble_eq_true rfl⟩ dX11_insertRule_38) ?_
    refine v_aload C 0 dX11_insertRule_41 rfl ?_
    refine v_getI C fdX11_176 dX11_insertRule_43 h (fun y8 h => ?_)
    exact v_iret C dX11_insertRule_46 (Prod.mk.inj (Option.some.inj h)).2 (Prod.mk.inj (Option.some.inj h)).1
  · refine v_bipush C (-5 : Int32) dX11_insertRule_21 (by decide) ?_
    exact v_iret C dX11_insertRule_23 (Prod.mk.inj (Option.some.inj h)).2 (Prod.mk.inj (Option.some.inj h)).1
set_option maxRecDepth 100000 in
set_option maxHeartbeats 4000000 in
theorem mX11_insertDrop {l : Launch} {D : UD} {bs : Nat} {a0 : Nat} {x1 : Int32} {x2 : Int32} {x3 : Int32} {x4 : Int32} {x5 : Int32} {u0 : UH} {r : Int32} {v : UH} (h : fX11_insertDrop a0 x1 x2 x3 x4 x5 u0 = some (r, v)) : Met l yX11_insertDrop (wz yX11_insertDrop cX11_insertDrop 6 (some .int)) rmX11_insertDrop (va_Pc [.ref (bs + a0), .int x1, .int x2, .int x3, .int x4, .int x5] (uIn D bs u0)) (uQi D bs u0 v r) 1 8 (uA bs u0) := by
  refine uMet (by decide) (Nat.le_of_ble_eq_true rfl) ?_
  intro X tw hX C hin
  have C : uCx X D bs tw cX11_insertDrop 6 RX11 (some .int) := C
  have hin : X.2.2.2.2.2.2.2.1.name = "insertDrop" := hin
  refine v_L [(0, .ref (bs + a0)), (1, .int x1), (2, .int x2), (3, .int x3), (4, .int x4), (5, .int x5)] rfl ?_
  unfold fX11_insertDrop at h
  refine v_iload_n C 1 dX11_insertDrop_0 rfl rfl ?_
  obtain ⟨y1, h1, h⟩ := ob_some h
  refine v_goi (rn_S C gcX11_116 (mX11_isBox h1) ⟨rfl, rfl⟩ rfl ⟨Nat.le_of_ble_eq_true rfl, Nat.le_of_ble_eq_true rfl⟩ (rest := []) rfl (Nat.le_of_ble_eq_true rfl) ⟨Nat.le_of_ble_eq_true rfl, Nat.le_of_ble_eq_true rfl⟩ dX11_insertDrop_1) ?_
  refine v_ifne C 9 dX11_insertDrop_4 (by decide) h (fun _ h => ?_) (fun _ h => ?_)
  · refine v_aload_n C 0 dX11_insertDrop_9 rfl rfl ?_
    refine v_iload_n C 1 dX11_insertDrop_10 rfl rfl ?_
    refine v_iload_n C 2 dX11_insertDrop_11 rfl rfl ?_
    refine v_iload_n C 3 dX11_insertDrop_12 rfl rfl ?_
    refine v_iload C 4 dX11_insertDrop_13 rfl ?_
    refine v_iload C 5 dX11_insertDrop_15 rfl ?_
    obtain ⟨y2, h1, h⟩ := ob_some h
    obtain ⟨hkd, h1⟩ := kd_some h1
    refine v_goi (rn_V C gcX11_120 (RX11, TX11, 12) rfl rfl (by decide) hkd (mX11_isInsertable h1) ⟨rfl, rfl⟩ rfl ⟨Nat.le_of_ble_eq_true rfl, Nat.le_of_ble_eq_true rfl⟩ (rest := []) rfl (Nat.le_of_ble_eq_true rfl) ⟨Nat.le_of_ble_eq_true rfl, Nat.le_of_ble_eq_true rfl⟩ dX11_insertDrop_17) ?_
    refine v_ifne C 26 dX11_insertDrop_20 (by decide) h (fun _ h => ?_) (fun _ h => ?_)
    · refine v_aload_n C 0 dX11_insertDrop_26 rfl rfl ?_
      refine v_iload_n C 1 dX11_insertDrop_27 rfl rfl ?_
      refine v_iload_n C 2 dX11_insertDrop_28 rfl rfl ?_
      refine v_new C cdX11_124 (Nat.le_of_ble_eq_true rfl) (Nat.le_of_ble_eq_true rfl) dX11_insertDrop_29 h (fun b3 u4 h => ?_)
      refine v_dup C dX11_insertDrop_32 rfl ?_
      refine v_iload_n C 3 dX11_insertDrop_33 rfl rfl ?_
      refine v_iload C 4 dX11_insertDrop_34 rfl ?_
      refine v_iload C 5 dX11_insertDrop_36 rfl ?_
      refine v_iconst C (0 : Int32) dX11_insertDrop_38 (by decide) ?_
      refine v_iconst C (0 : Int32) dX11_insertDrop_39 (by decide) ?_
      refine v_iconst C (0 : Int32) dX11_insertDrop_40 (by decide) ?_
      refine v_iconst C (1 : Int32) dX11_insertDrop_41 (by decide) ?_
      obtain ⟨u5, h1, h⟩ := ob_some h
      refine v_gov (rn_I C gcX11_126 (mX6_init h1) ⟨rfl, rfl⟩ rfl ⟨Nat.le_of_ble_eq_true rfl, Nat.le_of_ble_eq_true rfl⟩ (rest := [.ref (bs + b3), .int x2, .int x1, .ref (bs + a0)]) rfl (Nat.le_of_ble_eq_true rfl) ⟨Nat.le_of_ble_eq_true rfl, Nat.le_of_ble_eq_true rfl⟩ dX11_insertDrop_42) ?_
      obtain ⟨y6, u7, h1, h⟩ := ob2_some h
      obtain ⟨hkd, h1⟩ := kd_some h1
      refine v_goi (rn_V C gcX11_129 (RX11, TX11, 12) rfl rfl (by decide) hkd (mX11_insertRule h1) ⟨rfl, rfl⟩ rfl ⟨Nat.le_of_ble_eq_true rfl, Nat.le_of_ble_eq_true rfl⟩ (rest := []) rfl (Nat.le_of_ble_eq_true rfl) ⟨Nat.le_of_ble_eq_true rfl, Nat.le_of_ble_eq_true rfl⟩ dX11_insertDrop_45) ?_
      exact v_iret C dX11_insertDrop_48 (Prod.mk.inj (Option.some.inj h)).2 (Prod.mk.inj (Option.some.inj h)).1
    · refine v_bipush C (-3 : Int32) dX11_insertDrop_23 (by decide) ?_
      refine v_widen 1 8 (Nat.le_of_ble_eq_true rfl) (Nat.le_of_ble_eq_true rfl) ?_
      exact v_iret C dX11_insertDrop_25 (Prod.mk.inj (Option.some.inj h)).2 (Prod.mk.inj (Option.some.inj h)).1
  · refine v_iconst C (-1 : Int32) dX11_insertDrop_7 (by decide) ?_
    refine v_widen 1 8 (Nat.le_of_ble_eq_true rfl) (Nat.le_of_ble_eq_true rfl) ?_
    exact v_iret C dX11_insertDrop_8 (Prod.mk.inj (Option.some.inj h)).2 (Prod.mk.inj (Option.some.inj h)).1
set_option maxRecDepth 100000 in
set_option maxHeartbeats 4000000 in
theorem mX11_insertForward {l : Launch} {D : UD} {bs : Nat} {a0 : Nat} {x1 : Int32} {x2 : Int32} {x3 : Int32} {x4 : Int32} {x5 : Int32} {x6 : Int32} {u0 : UH} {r : Int32} {v : UH} (h : fX11_insertForward a0 x1 x2 x3 x4 x5 x6 u0 = some (r, v)) : Met l yX11_insertForward (wz yX11_insertForward cX11_insertForward 7 (some .int)) rmX11_insertForward (va_Pc [.ref (bs + a0), .int x1, .int x2, .int x3, .int x4, .int x5, .int x6] (uIn D bs u0)) (uQi D bs u0 v r) 1 8 (uA bs u0) := by
  refine uMet (by decide) (Nat.le_of_ble_eq_true rfl) ?_
  intro X tw hX C hin
  have C : uCx X D bs tw cX11_insertForward 7 RX11 (some .int) := C
  have hin : X.2.2.2.2.2.2.2.1.name = "insertForward" := hin
  refine v_L [(0, .ref (bs + a0)), (1, .int x1), (2, .int x2), (3, .int x3), (4, .int x4), (5, .int x5), (6, .int x6)] rfl ?_
  unfold fX11_insertForward at h
  refine v_iload_n C 1 dX11_insertForward_0 rfl rfl ?_
  obtain ⟨y1, h1, h⟩ := ob_some h
  refine v_goi (rn_S C gcX11_116 (mX11_isBox h1) ⟨rfl, rfl⟩ rfl ⟨Nat.le_of_ble_eq_true rfl, Nat.le_of_ble_eq_true rfl⟩ (rest := []) rfl (Nat.le_of_ble_eq_true rfl) ⟨Nat.le_of_ble_eq_true rfl, Nat.le_of_ble_eq_true rfl⟩ dX11_insertForward_1) ?_
  refine v_ifne C 9 dX11_insertForward_4 (by decide) h (fun _ h => ?_) (fun _ h => ?_)
  · refine v_aload_n C 0 dX11_insertForward_9 rfl rfl ?_
    refine v_iload_n C 1 dX11_insertForward_10 rfl rfl ?_
    refine v_iload_n C 2 dX11_insertForward_11 rfl rfl ?_
    refine v_iload_n C 3 dX11_insertForward_12 rfl rfl ?_
    refine v_iload C 4 dX11_insertForward_13 rfl ?_
    refine v_iload C 5 dX11_insertForward_15 rfl ?_
    obtain ⟨y2, h1, h⟩ := ob_some h
    obtain ⟨hkd, h1⟩ := kd_some h1
    refine v_goi (rn_V C gcX11_120 (RX11, TX11, 12) rfl rfl (by decide) hkd (mX11_isInsertable h1) ⟨rfl, rfl⟩ rfl ⟨Nat.le_of_ble_eq_true rfl, Nat.le_of_ble_eq_true rfl⟩ (rest := []) rfl (Nat.le_of_ble_eq_true rfl) ⟨Nat.le_of_ble_eq_true rfl, Nat.le_of_ble_eq_true rfl⟩ dX11_insertForward_17) ?_
    refine v_ifeq C 31 dX11_insertForward_20 (by decide) h (fun _ h => ?_) (fun _ h => ?_)
    · refine v_bipush C (-3 : Int32) dX11_insertForward_31 (by decide) ?_
      refine v_widen 1 8 (Nat.le_of_ble_eq_true rfl) (Nat.le_of_ble_eq_true rfl) ?_
      exact v_iret C dX11_insertForward_33 (Prod.mk.inj (Option.some.inj h)).2 (Prod.mk.inj (Option.some.inj h)).1
    · refine v_iload C 6 dX11_insertForward_23 rfl ?_
      obtain ⟨y3, h1, h⟩ := ob_some h
      refine v_goi (rn_S C gcX11_133 (mX11_isPortSet h1) ⟨rfl, rfl⟩ rfl ⟨Nat.le_of_ble_eq_true rfl, Nat.le_of_ble_eq_true rfl⟩ (rest := []) rfl (Nat.le_of_ble_eq_true rfl) ⟨Nat.le_of_ble_eq_true rfl, Nat.le_of_ble_eq_true rfl⟩ dX11_insertForward_25) ?_
      refine v_ifne C 34 dX11_insertForward_28 (by decide) h (fun _ h => ?_) (fun _ h => ?_)
      · refine v_aload_n C 0 dX11_insertForward_34 rfl rfl ?_
        refine v_iload_n C 1 dX11_insertForward_35 rfl rfl ?_
        refine v_iload_n C 2 dX11_insertForward_36 rfl rfl ?_
        refine v_new C cdX11_124 (Nat.le_of_ble_eq_true rfl) (Nat.le_of_ble_eq_true rfl) dX11_insertForward_37 h (fun b4 u5 h => ?_)
        refine v_dup C dX11_insertForward_40 rfl ?_
        refine v_iload_n C 3 dX11_insertForward_41 rfl rfl ?_
        refine v_iload C 4 dX11_insertForward_42 rfl ?_
        refine v_iload C 5 dX11_insertForward_44 rfl ?_
        refine v_iload C 6 dX11_insertForward_46 rfl ?_
        refine v_iconst C (0 : Int32) dX11_insertForward_48 (by decide) ?_
        refine v_iconst C (0 : Int32) dX11_insertForward_49 (by decide) ?_
        refine v_iconst C (1 : Int32) dX11_insertForward_50 (by decide) ?_
        obtain ⟨u6, h1, h⟩ := ob_some h
        refine v_gov (rn_I C gcX11_126 (mX6_init h1) ⟨rfl, rfl⟩ rfl ⟨Nat.le_of_ble_eq_true rfl, Nat.le_of_ble_eq_true rfl⟩ (rest := [.ref (bs + b4), .int x2, .int x1, .ref (bs + a0)]) rfl (Nat.le_of_ble_eq_true rfl) ⟨Nat.le_of_ble_eq_true rfl, Nat.le_of_ble_eq_true rfl⟩ dX11_insertForward_51) ?_
        obtain ⟨y7, u8, h1, h⟩ := ob2_some h
        obtain ⟨hkd, h1⟩ := kd_some h1
        refine v_goi (rn_V C gcX11_129 (RX11, TX11, 12) rfl rfl (by decide) hkd (mX11_insertRule h1) ⟨rfl, rfl⟩ rfl ⟨Nat.le_of_ble_eq_true rfl, Nat.le_of_ble_eq_true rfl⟩ (rest := []) rfl (Nat.le_of_ble_eq_true rfl) ⟨Nat.le_of_ble_eq_true rfl, Nat.le_of_ble_eq_true rfl⟩ dX11_insertForward_54) ?_
        exact v_iret C dX11_insertForward_57 (Prod.mk.inj (Option.some.inj h)).2 (Prod.mk.inj (Option.some.inj h)).1
      · refine v_bipush C (-3 : Int32) dX11_insertForward_31 (by decide) ?_
        refine v_widen 1 8 (Nat.le_of_ble_eq_true rfl) (Nat.le_of_ble_eq_true rfl) ?_
        exact v_iret C dX11_insertForward_33 (Prod.mk.inj (Option.some.inj h)).2 (Prod.mk.inj (Option.some.inj h)).1
  · refine v_iconst C (-1 : Int32) dX11_insertForward_7 (by decide) ?_
    refine v_widen 1 8 (Nat.le_of_ble_eq_true rfl) (Nat.le_of_ble_eq_true rfl) ?_
    exact v_iret C dX11_insertForward_8 (Prod.mk.inj (Option.some.inj h)).2 (Prod.mk.inj (Option.some.inj h)).1
set_option maxRecDepth 100000 in
set_option maxHeartbeats 4000000 in
theorem mX11_ruleError {l : Launch} {D : UD} {bs : Nat} {a0 : Nat} {x1 : Int32} {x2 : Int32} {u0 : UH} {r : Int32} (h : fX11_ruleError a0 x1 x2 u0 = some r) : Met l yX11_ruleError (wz yX11_ruleError cX11_ruleError 3 (some .int)) rmX11_ruleError (va_Pc [.ref (bs + a0), .int x1, .int x2] (uIn D bs u0)) (uQi D bs u0 u0 r) 0 0 (uA bs u0) := by
  refine uMet (by decide) (Nat.le_of_ble_eq_true rfl) ?_
  intro X tw hX C hin
  have C : uCx X D bs tw cX11_ruleError 3 RX11 (some .int) := C
  have hin : X.2.2.2.2.2.2.2.1.name = "ruleError" := hin
  refine v_L [(0, .ref (bs + a0)), (1, .int x1), (2, .int x2)] rfl ?_
  unfold fX11_ruleError at h
  refine v_iload_n C 1 dX11_ruleError_0 rfl rfl ?_
  obtain ⟨y1, h1, h⟩ := ob_some h
  refine v_goi (rn_S C gcX11_116 (mX11_isBox h1) ⟨rfl, rfl⟩ rfl ⟨Nat.le_of_ble_eq_true rfl, Nat.le_of_ble_eq_true rfl⟩ (rest := []) rfl (Nat.le_of_ble_eq_true rfl) ⟨Nat.le_of_ble_eq_true rfl, Nat.le_of_ble_eq_true rfl⟩ dX11_ruleError_1) ?_
  refine v_ifne C 9 dX11_ruleError_4 (by decide) h (fun _ h => ?_) (fun _ h => ?_)
  · refine v_iload_n C 2 dX11_ruleError_9 rfl rfl ?_
    refine v_iflt C 29 dX11_ruleError_10 (by decide) h (fun _ h => ?_) (fun _ h => ?_)
    · refine v_bipush C (-2 : Int32) dX11_ruleError_29 (by decide) ?_
      refine v_goto C 35 dX11_ruleError_31 (by decide) ?_
      exact v_iret C dX11_ruleError_35 rfl (Option.some.inj h)
    · refine v_iload_n C 2 dX11_ruleError_13 rfl rfl ?_
      refine v_aload_n C 0 dX11_ruleError_14 rfl rfl ?_
      refine v_getR C fdX11_14 dX11_ruleError_15 h (fun b2 h => ?_)
      refine v_getR C fdX11_142 dX11_ruleError_18 h (fun b3 h => ?_)
      refine v_iload_n C 1 dX11_ruleError_21 rfl rfl ?_
      refine v_ldR C 26 _ rfl (by decide) dX11_ruleError_22 h (fun b4 h => ?_)
      refine v_getI C fdX11_176 dX11_ruleError_23 h (fun y5 h => ?_)
      refine v_icmplt C 34 dX11_ruleError_26 (by decide) h (fun _ h => ?_) (fun _ h => ?_)
      · refine v_iconst C (0 : Int32) dX11_ruleError_34 (by decide) ?_
        exact v_iret C dX11_ruleError_35 rfl (Option.some.inj h)
      · refine v_bipush C (-2 : Int32) dX11_ruleError_29 (by decide) ?_
        refine v_goto C 35 dX11_ruleError_31 (by decide) ?_
        exact v_iret C dX11_ruleError_35 rfl (Option.some.inj h)
  · refine v_iconst C (-1 : Int32) dX11_ruleError_7 (by decide) ?_
    exact v_iret C dX11_ruleError_8 rfl (Option.some.inj h)
set_option maxRecDepth 100000 in
set_option maxHeartbeats 4000000 in
theorem mX6_withRewriting {l : Launch} {D : UD} {bs : Nat} {a0 : Nat} {x1 : Int32} {x2 : Int32} {u0 : UH} {r : Nat} {v : UH} (h : fX6_withRewriting a0 x1 x2 u0 = some (r, v)) : Met l yX6_withRewriting (wz yX6_withRewriting cX6_withRewriting 3 (some (.object RX6))) rmX6_withRewriting (va_Pc [.ref (bs + a0), .int x1, .int x2] (uIn D bs u0)) (uQr D bs u0 v r) 1 8 (uA bs u0) := by
  refine uMet (by decide) (Nat.le_of_ble_eq_true rfl) ?_
  intro X tw hX C hin
  have C : uCx X D bs tw cX6_withRewriting 3 RX6 (some (.object RX6)) := C
  have hin : X.2.2.2.2.2.2.2.1.name = "withRewriting" := hin
  refine v_L [(0, .ref (bs + a0)), (1, .int x1), (2, .int x2)] rfl ?_
  unfold fX6_withRewriting at h
  refine v_new C cdX6_10 (Nat.le_of_ble_eq_true rfl) (Nat.le_of_ble_eq_true rfl) dX6_withRewriting_0 h (fun b1 u2 h => ?_)
  refine v_dup C dX6_withRewriting_3 rfl ?_
  refine v_aload_n C 0 dX6_withRewriting_4 rfl rfl ?_
  refine v_getI C fdX6_9 dX6_withRewriting_5 h (fun y3 h => ?_)
  refine v_aload_n C 0 dX6_withRewriting_8 rfl rfl ?_
  refine v_getI C fdX6_15 dX6_withRewriting_9 h (fun y4 h => ?_)
  refine v_aload_n C 0 dX6_withRewriting_12 rfl rfl ?_
  refine v_getI C fdX6_18 dX6_withRewriting_13 h (fun y5 h => ?_)
  refine v_aload_n C 0 dX6_withRewriting_16 rfl rfl ?_
  refine v_getI C fdX6_21 dX6_withRewriting_17 h (fun y6 h => ?_)
  refine v_iload_n C 1 dX6_withRewriting_20 rfl rfl ?_
  refine v_iload_n C 2 dX6_withRewriting_21 rfl rfl ?_
  refine v_aload_n C 0 dX6_withRewriting_22 rfl rfl ?_
  refine v_getI C fdX6_30 dX6_withRewriting_23 h (fun y7 h => ?_)
  obtain ⟨u8, h1, h⟩ := ob_some h
  refine v_gov (rn_I C gcX6_42 (mX6_init h1) ⟨rfl, rfl⟩ rfl ⟨Nat.le_of_ble_eq_true rfl, Nat.le_of_ble_eq_true rfl⟩ (rest := [.ref (bs + b1)]) rfl (Nat.le_of_ble_eq_true rfl) ⟨Nat.le_of_ble_eq_true rfl, Nat.le_of_ble_eq_true rfl⟩ dX6_withRewriting_26) ?_
  exact v_aret C dX6_withRewriting_29 (Prod.mk.inj (Option.some.inj h)).2 (Prod.mk.inj (Option.some.inj h)).1 (Or.inl ⟨_, rfl⟩)
set_option maxRecDepth 100000 in
set_option maxHeartbeats 4000000 in
theorem mX11_replaceRule {l : Launch} {D : UD} {bs : Nat} {a0 : Nat} {x1 : Int32} {x2 : Int32} {a3 : Nat} {u0 : UH} {v : UH} (h : fX11_replaceRule a0 x1 x2 a3 u0 = some v) : Met l yX11_replaceRule (wz yX11_replaceRule cX11_replaceRule 5 none) rmX11_replaceRule (va_Pc [.ref (bs + a0), .int x1, .int x2, .ref (bs + a3)] (uIn D bs u0)) (uQv D bs u0 v) 0 0 (uA bs u0) := by
  refine uMet (by decide) (Nat.le_of_ble_eq_true rfl) ?_
  intro X tw hX C hin
  have C : uCx X D bs tw cX11_replaceRule 5 RX11 none := C
  have hin : X.2.2.2.2.2.2.2.1.name = "replaceRule" := hin
  refine v_L [(0, .ref (bs + a0)), (1, .int x1), (2, .int x2), (3, .ref (bs + a3))] rfl ?_
  unfold fX11_replaceRule at h
  refine v_aload_n C 0 dX11_replaceRule_0 rfl rfl ?_
  refine v_getR C fdX11_14 dX11_replaceRule_1 h (fun b1 h => ?_)
  refine v_getR C fdX11_142 dX11_replaceRule_4 h (fun b2 h => ?_)
  refine v_iload_n C 1 dX11_replaceRule_7 rfl rfl ?_
  refine v_ldR C 26 _ rfl (by decide) dX11_replaceRule_8 h (fun b3 h => ?_)
  refine v_astore C [(4, .ref (bs + b3)), (0, .ref (bs + a0)), (1, .int x1), (2, .int x2), (3, .ref (bs + a3))] dX11_replaceRule_9 (by decide) rfl ?_
  refine v_aload_n C 1 dX11_replaceRule_11 rfl rfl ?_
  refine v_getR C fdX11_21 dX11_replaceRule_12 h (fun b4 h => ?_)
  refine v_iload_n C 2 dX11_replaceRule_15 rfl rfl ?_
  refine v_aload C 0 dX11_replaceRule_16 rfl ?_
  obtain ⟨u5, h1, h⟩ := ob_some h
  obtain ⟨hkd, h1⟩ := kd_some h1
  refine v_gov (rn_V C gcX11_169 (RX3, TX3, 4) rfl rfl (by decide) hkd (mX3_keep h1) ⟨rfl, rfl⟩ rfl ⟨Nat.le_of_ble_eq_true rfl, Nat.le_of_ble_eq_true rfl⟩ (rest := []) rfl (Nat.le_of_ble_eq_true rfl) ⟨Nat.le_of_ble_eq_true rfl, Nat.le_of_ble_eq_true rfl⟩ dX11_replaceRule_18) ?_
  refine v_aload C 0 dX11_replaceRule_21 rfl ?_
  refine v_getR C fdX11_146 dX11_replaceRule_23 h (fun b6 h => ?_)
  refine v_iload_n C 3 dX11_replaceRule_26 rfl rfl ?_
  refine v_aload_n C 4 dX11_replaceRule_27 rfl rfl ?_
  refine v_stR C 25 6 (RX6, TX6, 8) rfl rfl (by decide) (by decide) dX11_replaceRule_28 h (fun u7 h => ?_)
  exact v_vret C dX11_replaceRule_29 (Option.some.inj h)
set_option maxRecDepth 100000 in
set_option maxHeartbeats 4000000 in
theorem mX11_setRewriting {l : Launch} {D : UD} {bs : Nat} {a0 : Nat} {x1 : Int32} {x2 : Int32} {x3 : Int32} {x4 : Int32} {u0 : UH} {r : Int32} {v : UH} (h : fX11_setRewriting a0 x1 x2 x3 x4 u0 = some (r, v)) : Met l yX11_setRewriting (wz yX11_setRewriting cX11_setRewriting 8 (some .int)) rmX11_setRewriting (va_Pc [.ref (bs + a0), .int x1, .int x2, .int x3, .int x4] (uIn D bs u0)) (uQi D bs u0 v r) 1 8 (uA bs u0) := by
  refine uMet (by decide) (Nat.le_of_ble_eq_true rfl) ?_
  intro X tw hX C hin
  have C : uCx X D bs tw cX11_setRewriting 8 RX11 (some .int) := C
  have hin : X.2.2.2.2.2.2.2.1.name = "setRewriting" := hin
  refine v_L [(0, .ref (bs + a0)), (1, .int x1), (2, .int x2), (3, .int x3), (4, .int x4)] rfl ?_
  unfold fX11_setRewriting at h
  refine v_aload_n C 0 dX11_setRewriting_0 rfl rfl ?_
  refine v_iload_n C 1 dX11_setRewriting_1 rfl rfl ?_
  refine v_iload_n C 2 dX11_setRewriting_2 rfl rfl ?_
  obtain ⟨y1, h1, h⟩ := ob_some h
  obtain ⟨hkd, h1⟩ := kd_some h1
  refine v_goi (rn_V C gcX11_136 (RX11, TX11, 12) rfl rfl (by decide) hkd (mX11_ruleError h1) ⟨rfl, rfl⟩ rfl ⟨Nat.le_of_ble_eq_true rfl, Nat.le_of_ble_eq_true rfl⟩ (rest := []) rfl (Nat.le_of_ble_eq_true rfl) ⟨Nat.le_of_ble_eq_true rfl, Nat.le_of_ble_eq_true rfl⟩ dX11_setRewriting_3) ?_
  refine v_istore C [(5, .int y1), (0, .ref (bs + a0)), (1, .int x1), (2, .int x2), (3, .int x3), (4, .int x4)] dX11_setRewriting_6 (by decide) rfl ?_
  refine v_iload C 0 dX11_setRewriting_8 rfl ?_
  refine v_ifeq C 16 dX11_setRewriting_10 (by decide) h (fun _ h => ?_) (fun _ h => ?_)
  · refine v_aload_n C 1 dX11_setRewriting_16 rfl rfl ?_
    refine v_getR C fdX11_14 dX11_setRewriting_17 h (fun b2 h => ?_)
    refine v_iload_n C 4 dX11_setRewriting_20 rfl rfl ?_
    refine v_iload C 5 dX11_setRewriting_21 rfl ?_
    obtain ⟨y3, h1, h⟩ := ob_some h
    obtain ⟨hkd, h1⟩ := kd_some h1
    refine v_goi (rn_V C gcX11_139 (RX4, TX4, 4) rfl rfl (by decide) hkd (mX4_isCube h1) ⟨rfl, rfl⟩ rfl ⟨Nat.le_of_ble_eq_true rfl, Nat.le_of_ble_eq_true rfl⟩ (rest := []) rfl (Nat.le_of_ble_eq_true rfl) ⟨Nat.le_of_ble_eq_true rfl, Nat.le_of_ble_eq_true rfl⟩ dX11_setRewriting_23) ?_
    refine v_ifne C 32 dX11_setRewriting_26 (by decide) h (fun _ h => ?_) (fun _ h => ?_)
    · refine v_aload_n C 1 dX11_setRewriting_32 rfl rfl ?_
      refine v_getR C fdX11_14 dX11_setRewriting_33 h (fun b4 h => ?_)
      refine v_getR C fdX11_142 dX11_setRewriting_36 h (fun b5 h => ?_)
      refine v_iload_n C 2 dX11_setRewriting_39 rfl rfl ?_
      refine v_ldR C 26 _ rfl (by decide) dX11_setRewriting_40 h (fun b6 h => ?_)
      refine v_getR C fdX11_146 dX11_setRewriting_41 h (fun b7 h => ?_)
      refine v_iload_n C 3 dX11_setRewriting_44 rfl rfl ?_
      refine v_ldR C 25 _ rfl (by decide) dX11_setRewriting_45 h (fun b8 h => ?_)
      refine v_astore C [(6, .ref (bs + b8)), (5, .int y1), (0, .ref (bs + a0)), (1, .int x1), (2, .int x2), (3, .int x3), (4, .int x4)] dX11_setRewriting_46 (by decide) rfl ?_
      refine v_aload C 0 dX11_setRewriting_48 rfl ?_
      refine v_getI C fdX11_152 dX11_setRewriting_50 h (fun y9 h => ?_)
      refine v_ifne C 59 dX11_setRewriting_53 (by decide) h (fun _ h => ?_) (fun _ h => ?_)
      · refine v_aload C 0 dX11_setRewriting_59 rfl ?_
        refine v_iload_n C 5 dX11_setRewriting_61 rfl rfl ?_
        refine v_iload C 6 dX11_setRewriting_62 rfl ?_
        obtain ⟨b10, u11, h1, h⟩ := ob2_some h
        obtain ⟨hkd, h1⟩ := kd_some h1
        refine v_gor (rn_V C gcX11_155 (RX6, TX6, 8) rfl rfl (by decide) hkd (mX6_withRewriting h1) ⟨rfl, rfl⟩ rfl ⟨Nat.le_of_ble_eq_true rfl, Nat.le_of_ble_eq_true rfl⟩ (rest := []) rfl (Nat.le_of_ble_eq_true rfl) ⟨Nat.le_of_ble_eq_true rfl, Nat.le_of_ble_eq_true rfl⟩ dX11_setRewriting_64) ?_
        refine v_astore C [(7, .ref (bs + b10)), (6, .ref (bs + b8)), (5, .int y1), (0, .ref (bs + a0)), (1, .int x1), (2, .int x2), (3, .int x3), (4, .int x4)] dX11_setRewriting_67 (by decide) rfl ?_
        refine v_aload_n C 3 dX11_setRewriting_69 rfl rfl ?_
        refine v_iload_n C 4 dX11_setRewriting_70 rfl rfl ?_
        refine v_iload_n C 5 dX11_setRewriting_71 rfl rfl ?_
        refine v_aload C 0 dX11_setRewriting_72 rfl ?_
        obtain ⟨u12, h1, h⟩ := ob_some h
        obtain ⟨hkd, h1⟩ := kd_some h1
        refine v_gov (rn_V C gcX11_159 (RX11, TX11, 12) rfl rfl (by decide) hkd (mX11_replaceRule h1) ⟨rfl, rfl⟩ rfl ⟨Nat.le_of_ble_eq_true rfl, Nat.le_of_ble_eq_true rfl⟩ (rest := []) rfl (Nat.le_of_ble_eq_true rfl) ⟨Nat.le_of_ble_eq_true rfl, Nat.le_of_ble_eq_true rfl⟩ dX11_setRewriting_74) ?_
        refine v_aload C 0 dX11_setRewriting_77 rfl ?_
        refine v_getI C fdX11_163 dX11_setRewriting_79 h (fun y13 h => ?_)
        refine v_aload C 1 dX11_setRewriting_82 rfl ?_
        refine v_getI C fdX11_163 dX11_setRewriting_84 h (fun y14 h => ?_)
        refine v_icmpne C 103 dX11_setRewriting_87 (by decide) h (fun _ h => ?_) (fun _ h => ?_)
        · refine v_iconst C (1 : Int32) dX11_setRewriting_103 (by decide) ?_
          refine v_goto C 108 dX11_setRewriting_104 (by decide) ?_
          exact v_iret C dX11_setRewriting_108 (Prod.mk.inj (Option.some.inj h)).2 (Prod.mk.inj (Option.some.inj h)).1
        · refine v_aload C 0 dX11_setRewriting_90 rfl ?_
          refine v_getI C fdX11_166 dX11_setRewriting_92 h (fun y15 h => ?_)
          refine v_aload C 1 dX11_setRewriting_95 rfl ?_
          refine v_getI C fdX11_166 dX11_setRewriting_97 h (fun y16 h => ?_)
          refine v_icmpeq C 107 dX11_setRewriting_100 (by decide) h (fun _ h => ?_) (fun _ h => ?_)
          · refine v_iconst C (0 : Int32) dX11_setRewriting_107 (by decide) ?_
            exact v_iret C dX11_setRewriting_108 (Prod.mk.inj (Option.some.inj h)).2 (Prod.mk.inj (Option.some.inj h)).1
          · refine v_iconst C (1 : Int32) dX11_setRewriting_103 (by decide) ?_
            refine v_goto C 108 dX11_setRewriting_104 (by decide) ?_
            exact v_iret C dX11_setRewriting_108 (Prod.mk.inj (Option.some.inj h)).2 (Prod.mk.inj (Option.some.inj h)).1
      · refine v_bipush C (-4 : Int32) dX11_setRewriting_56 (by decide) ?_
        refine v_widen 1 8 (Nat.le_of_ble_eq_true rfl) (Nat.le_of_ble_eq_true rfl) ?_
        exact v_iret C dX11_setRewriting_58 (Prod.mk.inj (Option.some.inj h)).2 (Prod.mk.inj (Option.some.inj h)).1
    · refine v_bipush C (-3 : Int32) dX11_setRewriting_29 (by decide) ?_
      refine v_widen 1 8 (Nat.le_of_ble_eq_true rfl) (Nat.le_of_ble_eq_true rfl) ?_
      exact v_iret C dX11_setRewriting_31 (Prod.mk.inj (Option.some.inj h)).2 (Prod.mk.inj (Option.some.inj h)).1
  · refine v_iload C 0 dX11_setRewriting_13 rfl ?_
    refine v_widen 1 8 (Nat.le_of_ble_eq_true rfl) (Nat.le_of_ble_eq_true rfl) ?_
    exact v_iret C dX11_setRewriting_15 (Prod.mk.inj (Option.some.inj h)).2 (Prod.mk.inj (Option.some.inj h)).1
set_option maxRecDepth 100000 in
set_option maxHeartbeats 4000000 in
theorem wX7_removeAt_B4 {X : UX} {D : UD} {bs tw : Nat} {u0 : UH} {v : UH} (C : uCx X D bs tw cX7_removeAt 3 RX7 none) (hin : X.2.2.2.2.2.2.2.1.name = "removeAt") {a0 : Nat}  {G : UH → Prop} {k : Int32 → UH → Option UH} (hk : ∀ (x2 : Int32) (u' : UH) e, k x2 u' = some e → G e → VV X D bs u0 rmX7_removeAt 3 0 0 (MQ X.2.2.2.2.2.2.1 (uQv D bs u0 v) X.2.2.2.2.2.1 X.2.2.2.1 0 0 (uA bs u0)) u' 4 [(0, .ref (bs + a0)), (2, .int x2)] []) (hex : ∀  (u' : UH), G u' → VV X D bs u0 rmX7_removeAt 3 0 0 (MQ X.2.2.2.2.2.2.1 (uQv D bs u0 v) X.2.2.2.2.2.1 X.2.2.2.1 0 0 (uA bs u0)) u' 32 [(0, .ref (bs + a0))] [])  : ∀ (x2 : Int32) (u : UH) e, fX7_removeAt_B4 a0  k x2 u = some e → G e → VV X D bs u0 rmX7_removeAt 3 0 0 (MQ X.2.2.2.2.2.2.1 (uQv D bs u0 v) X.2.2.2.2.2.1 X.2.2.2.1 0 0 (uA bs u0)) u 4 [(0, .ref (bs + a0)), (2, .int x2)] [] := by
  intro x2 u e h g
  unfold fX7_removeAt_B4 at h
  refine v_iload_n C 1 dX7_removeAt_4 rfl rfl ?_
  refine v_aload_n C 0 dX7_removeAt_5 rfl rfl ?_
  refine v_getI C fdX7_17 dX7_removeAt_6 h (fun y2 h => ?_)
  refine v_icmpge C 32 dX7_removeAt_9 (by decide) h (fun _ h => ?_) (fun _ h => ?_)
  · refine v_sub [(0, .ref (bs + a0))] [0] rfl ?_
    exact hex u ((Option.some.inj h).symm ▸ g)
  · refine v_aload_n C 0 dX7_removeAt_12 rfl rfl ?_
    refine v_getR C fdX7_11 dX7_removeAt_13 h (fun b3 h => ?_)
    refine v_iload_n C 1 dX7_removeAt_16 rfl rfl ?_
    refine v_iconst C (1 : Int32) dX7_removeAt_17 (by decide) ?_
    refine v_isub C dX7_removeAt_18 ?_
    refine v_aload_n C 0 dX7_removeAt_19 rfl rfl ?_
    refine v_getR C fdX7_11 dX7_removeAt_20 h (fun b4 h => ?_)
    refine v_iload_n C 1 dX7_removeAt_23 rfl rfl ?_
    refine v_ldR C 25 _ rfl (by decide) dX7_removeAt_24 h (fun b5 h => ?_)
    refine v_stR C 25 6 (RX6, TX6, 8) rfl rfl (by decide) (by decide) dX7_removeAt_25 h (fun u6 h => ?_)
    refine v_iinc C 1 (x2 + (1 : Int32)) [(2, .int (x2 + (1 : Int32))), (0, .ref (bs + a0))] dX7_removeAt_26 rfl rfl (by decide) rfl ?_
    refine v_goto C 4 dX7_removeAt_29 (by decide) ?_
    refine v_sub [(0, .ref (bs + a0)), (2, .int (x2 + (1 : Int32)))] [1, 0] rfl ?_
    exact hk (x2 + (1 : Int32)) u6 _ h g
set_option maxRecDepth 100000 in
set_option maxHeartbeats 4000000 in
theorem mX7_removeAt {l : Launch} {D : UD} {bs : Nat} {a0 : Nat} {x1 : Int32} {u0 : UH} {v : UH} (h : fX7_removeAt a0 x1 u0 = some v) : Met l yX7_removeAt (wz yX7_removeAt cX7_removeAt 3 none) rmX7_removeAt (va_Pc [.ref (bs + a0), .int x1] (uIn D bs u0)) (uQv D bs u0 v) 0 0 (uA bs u0) := by
  refine uMet (by decide) (Nat.le_of_ble_eq_true rfl) ?_
  intro X tw hX C hin
  have C : uCx X D bs tw cX7_removeAt 3 RX7 none := C
  have hin : X.2.2.2.2.2.2.2.1.name = "removeAt" := hin
  refine v_L [(0, .ref (bs + a0)), (1, .int x1)] rfl ?_
  unfold fX7_removeAt at h
  refine v_iload_n C 1 dX7_removeAt_0 rfl rfl ?_
  refine v_iconst C (1 : Int32) dX7_removeAt_1 (by decide) ?_
  refine v_iadd C dX7_removeAt_2 ?_
  refine v_lti h (fun y1 h => ?_)
  refine v_istore_n C [(2, .int y1), (0, .ref (bs + a0)), (1, .int x1)] dX7_removeAt_3 rfl (by decide) rfl ?_
  refine v_sub [(0, .ref (bs + a0)), (2, .int y1)] [1, 0] rfl ?_
  refine it2_O (V := fun x2 u' => VV X D bs u0 rmX7_removeAt 3 0 0 (MQ X.2.2.2.2.2.2.1 (uQv D bs u0 v) X.2.2.2.2.2.1 X.2.2.2.1 0 0 (uA bs u0)) u' 4 [(0, .ref (bs + a0)), (2, .int x2)] []) h (fun k_ hk_ => wX7_removeAt_B4 C hin hk_ ?_ )
  intro z8 h
  try dsimp only [Sum.elim_inl] at h
  refine v_aload_n C 0 dX7_removeAt_32 rfl rfl ?_
  refine v_dup C dX7_removeAt_33 rfl ?_
  refine v_getI C fdX7_17 dX7_removeAt_34 h (fun y9 h => ?_)
  refine v_iconst C (1 : Int32) dX7_removeAt_37 (by decide) ?_
  refine v_isub C dX7_removeAt_38 ?_
  refine v_putI C fdX7_17 (fun h => by cases h) dX7_removeAt_39 h (fun u10 h => ?_)
  exact v_vret C dX7_removeAt_42 (Option.some.inj h)
set_option maxRecDepth 100000 in
set_option maxHeartbeats 4000000 in
theorem mX11_removeRule {l : Launch} {D : UD} {bs : Nat} {a0 : Nat} {x1 : Int32} {x2 : Int32} {u0 : UH} {r : Int32} {v : UH} (h : fX11_removeRule a0 x1 x2 u0 = some (r, v)) : Met l yX11_removeRule (wz yX11_removeRule cX11_removeRule 5 (some .int)) rmX11_removeRule (va_Pc [.ref (bs + a0), .int x1, .int x2] (uIn D bs u0)) (uQi D bs u0 v r) 0 0 (uA bs u0) := by
  refine uMet (by decide) (Nat.le_of_ble_eq_true rfl) ?_
  intro X tw hX C hin
  have C : uCx X D bs tw cX11_removeRule 5 RX11 (some .int) := C
  have hin : X.2.2.2.2.2.2.2.1.name = "removeRule" := hin
  refine v_L [(0, .ref (bs + a0)), (1, .int x1), (2, .int x2)] rfl ?_
  unfold fX11_removeRule at h
  refine v_aload_n C 0 dX11_removeRule_0 rfl rfl ?_
  refine v_iload_n C 1 dX11_removeRule_1 rfl rfl ?_
  refine v_iload_n C 2 dX11_removeRule_2 rfl rfl ?_
  obtain ⟨y1, h1, h⟩ := ob_some h
  obtain ⟨hkd, h1⟩ := kd_some h1
  refine v_goi (rn_V C gcX11_136 (RX11, TX11, 12) rfl rfl (by decide) hkd (mX11_ruleError h1) ⟨rfl, rfl⟩ rfl ⟨Nat.le_of_ble_eq_true rfl, Nat.le_of_ble_eq_true rfl⟩ (rest := []) rfl (Nat.le_of_ble_eq_true rfl) ⟨Nat.le_of_ble_eq_true rfl, Nat.le_of_ble_eq_true rfl⟩ dX11_removeRule_3) ?_
  refine v_istore_n C [(3, .int y1), (0, .ref (bs + a0)), (1, .int x1), (2, .int x2)] dX11_removeRule_6 rfl (by decide) rfl ?_
  refine v_iload_n C 0 dX11_removeRule_7 rfl rfl ?_
  refine v_ifeq C 13 dX11_removeRule_8 (by decide) h (fun _ h => ?_) (fun _ h => ?_)
  · refine v_aload_n C 1 dX11_removeRule_13 rfl rfl ?_
    refine v_getR C fdX11_14 dX11_removeRule_14 h (fun b2 h => ?_)
    refine v_getR C fdX11_142 dX11_removeRule_17 h (fun b3 h => ?_)
    refine v_iload_n C 2 dX11_removeRule_20 rfl rfl ?_
    refine v_ldR C 26 _ rfl (by decide) dX11_removeRule_21 h (fun b4 h => ?_)
    refine v_astore C [(4, .ref (bs + b4)), (3, .int y1), (0, .ref (bs + a0)), (1, .int x1), (2, .int x2)] dX11_removeRule_22 (by decide) rfl ?_
    refine v_aload_n C 2 dX11_removeRule_24 rfl rfl ?_
    refine v_getR C fdX11_21 dX11_removeRule_25 h (fun b5 h => ?_)
    refine v_iload_n C 3 dX11_removeRule_28 rfl rfl ?_
    refine v_aload C 0 dX11_removeRule_29 rfl ?_
    obtain ⟨u6, h1, h⟩ := ob_some h
    obtain ⟨hkd, h1⟩ := kd_some h1
    refine v_gov (rn_V C gcX11_169 (RX3, TX3, 4) rfl rfl (by decide) hkd (mX3_keep h1) ⟨rfl, rfl⟩ rfl ⟨Nat.le_of_ble_eq_true rfl, Nat.le_of_ble_eq_true rfl⟩ (rest := []) rfl (Nat.le_of_ble_eq_true rfl) ⟨Nat.le_of_ble_eq_true rfl, Nat.le_of_ble_eq_true rfl⟩ dX11_removeRule_31) ?_
    refine v_aload C 0 dX11_removeRule_34 rfl ?_
    refine v_iload_n C 4 dX11_removeRule_36 rfl rfl ?_
    obtain ⟨u7, h1, h⟩ := ob_some h
    obtain ⟨hkd, h1⟩ := kd_some h1
    refine v_gov (rn_V C gcX11_173 (RX7, TX7, 2) rfl rfl (by decide) hkd (mX7_removeAt h1) ⟨rfl, rfl⟩ rfl ⟨Nat.le_of_ble_eq_true rfl, Nat.le_of_ble_eq_true rfl⟩ (rest := []) rfl (Nat.le_of_ble_eq_true rfl) ⟨Nat.le_of_ble_eq_true rfl, Nat.le_of_ble_eq_true rfl⟩ dX11_removeRule_37) ?_
    refine v_aload C 0 dX11_removeRule_40 rfl ?_
    refine v_getI C fdX11_176 dX11_removeRule_42 h (fun y8 h => ?_)
    exact v_iret C dX11_removeRule_45 (Prod.mk.inj (Option.some.inj h)).2 (Prod.mk.inj (Option.some.inj h)).1
  · refine v_iload_n C 0 dX11_removeRule_11 rfl rfl ?_
    exact v_iret C dX11_removeRule_12 (Prod.mk.inj (Option.some.inj h)).2 (Prod.mk.inj (Option.some.inj h)).1
set_option maxRecDepth 100000 in
set_option maxHeartbeats 4000000 in
theorem wX11_moveRule_21 {X : UX} {D : UD} {bs tw : Nat} {u0 : UH} {r : Int32} {v : UH} (C : uCx X D bs tw cX11_moveRule 7 RX11 (some .int)) (hin : X.2.2.2.2.2.2.2.1.name = "moveRule") {a0 : Nat} {x1 : Int32} {x2 : Int32} {x3 : Int32} {x4 : Int32} {u : UH} (h : fX11_moveRule_21 a0 x1 x2 x3 x4 u = some (r, v)) : VV X D bs u0 rmX11_moveRule 7 0 0 (MQ X.2.2.2.2.2.2.1 (uQi D bs u0 v r) X.2.2.2.2.2.1 X.2.2.2.1 0 0 (uA bs u0)) u 21 [(0, .ref (bs + a0)), (1, .int x1), (2, .int x2), (3, .int x3), (4, .int x4)] [] := by
  unfold fX11_moveRule_21 at h
  refine v_iload C 4 dX11_moveRule_21 rfl ?_
  refine v_ifeq C 29 dX11_moveRule_23 (by decide) h (fun _ h => ?_) (fun _ h => ?_)
  · refine v_aload_n C 0 dX11_moveRule_29 rfl rfl ?_
    refine v_getR C fdX11_14 dX11_moveRule_30 h (fun b2 h => ?_)
    refine v_getR C fdX11_142 dX11_moveRule_33 h (fun b3 h => ?_)
    refine v_iload_n C 1 dX11_moveRule_36 rfl rfl ?_
    refine v_ldR C 26 _ rfl (by decide) dX11_moveRule_37 h (fun b4 h => ?_)
    refine v_astore C [(5, .ref (bs + b4)), (0, .ref (bs + a0)), (1, .int x1), (2, .int x2), (3, .int x3), (4, .int x4)] dX11_moveRule_38 (by decide) rfl ?_
    refine v_aload_n C 1 dX11_moveRule_40 rfl rfl ?_
    refine v_getR C fdX11_21 dX11_moveRule_41 h (fun b5 h => ?_)
    refine v_iload_n C 2 dX11_moveRule_44 rfl rfl ?_
    refine v_aload C 0 dX11_moveRule_45 rfl ?_
    obtain ⟨u6, h1, h⟩ := ob_some h
    obtain ⟨hkd, h1⟩ := kd_some h1
    refine v_gov (rn_V C gcX11_169 (RX3, TX3, 4) rfl rfl (by decide) hkd (mX3_keep h1) ⟨rfl, rfl⟩ rfl ⟨Nat.le_of_ble_eq_true rfl, Nat.le_of_ble_eq_true rfl⟩ (rest := []) rfl (Nat.le_of_ble_eq_true rfl) ⟨Nat.le_of_ble_eq_true rfl, Nat.le_of_ble_eq_true rfl⟩ dX11_moveRule_47) ?_
    refine v_aload C 0 dX11_moveRule_50 rfl ?_
    refine v_getR C fdX11_146 dX11_moveRule_52 h (fun b7 h => ?_)
    refine v_iload_n C 3 dX11_moveRule_55 rfl rfl ?_
    refine v_ldR C 25 _ rfl (by decide) dX11_moveRule_56 h (fun b8 h => ?_)
    refine v_astore C [(6, .ref (bs + b8)), (5, .ref (bs + b4)), (0, .ref (bs + a0)), (1, .int x1), (2, .int x2), (3, .int x3), (4, .int x4)] dX11_moveRule_57 (by decide) rfl ?_
    refine v_aload C 1 dX11_moveRule_59 rfl ?_
    refine v_iload_n C 4 dX11_moveRule_61 rfl rfl ?_
    obtain ⟨u9, h1, h⟩ := ob_some h
    obtain ⟨hkd, h1⟩ := kd_some h1
    refine v_gov (rn_V C gcX11_173 (RX7, TX7, 2) rfl rfl (by decide) hkd (mX7_removeAt h1) ⟨rfl, rfl⟩ rfl ⟨Nat.le_of_ble_eq_true rfl, Nat.le_of_ble_eq_true rfl⟩ (rest := []) rfl (Nat.le_of_ble_eq_true rfl) ⟨Nat.le_of_ble_eq_true rfl, Nat.le_of_ble_eq_true rfl⟩ dX11_moveRule_62) ?_
    refine v_aload C 1 dX11_moveRule_65 rfl ?_
    refine v_iload_n C 5 dX11_moveRule_67 rfl rfl ?_
    refine v_aload C 0 dX11_moveRule_68 rfl ?_
    obtain ⟨u10, h1, h⟩ := ob_some h
    obtain ⟨hkd, h1⟩ := kd_some h1
    refine v_gov (rn_V C gcX11_177 (RX7, TX7, 2) rfl rfl (by decide) hkd (mX7_insertAt h1) ⟨rfl, rfl⟩ rfl ⟨Nat.le_of_ble_eq_true rfl, Nat.le_of_ble_eq_true rfl⟩ (rest := []) rfl (Nat.le_of_ble_eq_true rfl) ⟨Nat.le_of_ble_eq_true rfl, Nat.le_of_ble_eq_true rfl⟩ dX11_moveRule_70) ?_
    refine v_iload_n C 4 dX11_moveRule_73 rfl rfl ?_
    refine v_iload_n C 5 dX11_moveRule_74 rfl rfl ?_
    refine v_icmpeq C 82 dX11_moveRule_75 (by decide) h (fun _ h => ?_) (fun _ h => ?_)
    · refine v_iconst C (0 : Int32) dX11_moveRule_82 (by decide) ?_
      exact v_iret C dX11_moveRule_83 (Prod.mk.inj (Option.some.inj h)).2 (Prod.mk.inj (Option.some.inj h)).1
    · refine v_iconst C (1 : Int32) dX11_moveRule_78 (by decide) ?_
      refine v_goto C 83 dX11_moveRule_79 (by decide) ?_
      exact v_iret C dX11_moveRule_83 (Prod.mk.inj (Option.some.inj h)).2 (Prod.mk.inj (Option.some.inj h)).1
  · refine v_iload C 4 dX11_moveRule_26 rfl ?_
    exact v_iret C dX11_moveRule_28 (Prod.mk.inj (Option.some.inj h)).2 (Prod.mk.inj (Option.some.inj h)).1
set_option maxRecDepth 100000 in
set_option maxHeartbeats 4000000 in
theorem mX11_moveRule {l : Launch} {D : UD} {bs : Nat} {a0 : Nat} {x1 : Int32} {x2 : Int32} {x3 : Int32} {u0 : UH} {r : Int32} {v : UH} (h : fX11_moveRule a0 x1 x2 x3 u0 = some (r, v)) : Met l yX11_moveRule (wz yX11_moveRule cX11_moveRule 7 (some .int)) rmX11_moveRule (va_Pc [.ref (bs + a0), .int x1, .int x2, .int x3] (uIn D bs u0)) (uQi D bs u0 v r) 0 0 (uA bs u0) := by
  refine uMet (by decide) (Nat.le_of_ble_eq_true rfl) ?_
  intro X tw hX C hin
  have C : uCx X D bs tw cX11_moveRule 7 RX11 (some .int) := C
  have hin : X.2.2.2.2.2.2.2.1.name = "moveRule" := hin
  refine v_L [(0, .ref (bs + a0)), (1, .int x1), (2, .int x2), (3, .int x3)] rfl ?_
  unfold fX11_moveRule at h
  refine v_aload_n C 0 dX11_moveRule_0 rfl rfl ?_
  refine v_iload_n C 1 dX11_moveRule_1 rfl rfl ?_
  refine v_iload_n C 2 dX11_moveRule_2 rfl rfl ?_
  obtain ⟨y1, h1, h⟩ := ob_some h
  obtain ⟨hkd, h1⟩ := kd_some h1
  refine v_goi (rn_V C gcX11_136 (RX11, TX11, 12) rfl rfl (by decide) hkd (mX11_ruleError h1) ⟨rfl, rfl⟩ rfl ⟨Nat.le_of_ble_eq_true rfl, Nat.le_of_ble_eq_true rfl⟩ (rest := []) rfl (Nat.le_of_ble_eq_true rfl) ⟨Nat.le_of_ble_eq_true rfl, Nat.le_of_ble_eq_true rfl⟩ dX11_moveRule_3) ?_
  refine v_istore C [(4, .int y1), (0, .ref (bs + a0)), (1, .int x1), (2, .int x2), (3, .int x3)] dX11_moveRule_6 (by decide) rfl ?_
  refine v_iload C 0 dX11_moveRule_8 rfl ?_
  refine v_ifne C 21 dX11_moveRule_10 (by decide) h (fun _ h => ?_) (fun _ h => ?_)
  · refine v_sub [(0, .ref (bs + a0)), (1, .int x1), (2, .int x2), (3, .int x3), (4, .int y1)] [1, 2, 3, 4, 0] rfl ?_
    exact wX11_moveRule_21 C hin h
  · refine v_aload_n C 1 dX11_moveRule_13 rfl rfl ?_
    refine v_iload_n C 2 dX11_moveRule_14 rfl rfl ?_
    refine v_iload_n C 4 dX11_moveRule_15 rfl rfl ?_
    obtain ⟨y11, h1, h⟩ := ob_some h
    obtain ⟨hkd, h1⟩ := kd_some h1
    refine v_goi (rn_V C gcX11_136 (RX11, TX11, 12) rfl rfl (by decide) hkd (mX11_ruleError h1) ⟨rfl, rfl⟩ rfl ⟨Nat.le_of_ble_eq_true rfl, Nat.le_of_ble_eq_true rfl⟩ (rest := []) rfl (Nat.le_of_ble_eq_true rfl) ⟨Nat.le_of_ble_eq_true rfl, Nat.le_of_ble_eq_true rfl⟩ dX11_moveRule_16) ?_
    refine v_istore C [(4, .int y11), (0, .ref (bs + a0)), (1, .int x1), (2, .int x2), (3, .int x3)] dX11_moveRule_19 (by decide) rfl ?_
    refine v_sub [(0, .ref (bs + a0)), (1, .int x1), (2, .int x2), (3, .int x3), (4, .int y11)] [1, 2, 3, 4, 0] rfl ?_
    exact wX11_moveRule_21 C hin h
set_option maxRecDepth 100000 in
set_option maxHeartbeats 4000000 in
theorem mX6_switched {l : Launch} {D : UD} {bs : Nat} {a0 : Nat} {x1 : Int32} {u0 : UH} {r : Nat} {v : UH} (h : fX6_switched a0 x1 u0 = some (r, v)) : Met l yX6_switched (wz yX6_switched cX6_switched 2 (some (.object RX6))) rmX6_switched (va_Pc [.ref (bs + a0), .int x1] (uIn D bs u0)) (uQr D bs u0 v r) 1 8 (uA bs u0) := by
  refine uMet (by decide) (Nat.le_of_ble_eq_true rfl) ?_
  intro X tw hX C hin
  have C : uCx X D bs tw cX6_switched 2 RX6 (some (.object RX6)) := C
  have hin : X.2.2.2.2.2.2.2.1.name = "switched" := hin
  refine v_L [(0, .ref (bs + a0)), (1, .int x1)] rfl ?_
  unfold fX6_switched at h
  refine v_new C cdX6_10 (Nat.le_of_ble_eq_true rfl) (Nat.le_of_ble_eq_true rfl) dX6_switched_0 h (fun b1 u2 h => ?_)
  refine v_dup C dX6_switched_3 rfl ?_
  refine v_aload_n C 0 dX6_switched_4 rfl rfl ?_
  refine v_getI C fdX6_9 dX6_switched_5 h (fun y3 h => ?_)
  refine v_aload_n C 0 dX6_switched_8 rfl rfl ?_
  refine v_getI C fdX6_15 dX6_switched_9 h (fun y4 h => ?_)
  refine v_aload_n C 0 dX6_switched_12 rfl rfl ?_
  refine v_getI C fdX6_18 dX6_switched_13 h (fun y5 h => ?_)
  refine v_aload_n C 0 dX6_switched_16 rfl rfl ?_
  refine v_getI C fdX6_21 dX6_switched_17 h (fun y6 h => ?_)
  refine v_aload_n C 0 dX6_switched_20 rfl rfl ?_
  refine v_getI C fdX6_24 dX6_switched_21 h (fun y7 h => ?_)
  refine v_aload_n C 0 dX6_switched_24 rfl rfl ?_
  refine v_getI C fdX6_27 dX6_switched_25 h (fun y8 h => ?_)
  refine v_iload_n C 1 dX6_switched_28 rfl rfl ?_
  obtain ⟨u9, h1, h⟩ := ob_some h
  refine v_gov (rn_I C gcX6_42 (mX6_init h1) ⟨rfl, rfl⟩ rfl ⟨Nat.le_of_ble_eq_true rfl, Nat.le_of_ble_eq_true rfl⟩ (rest := [.ref (bs + b1)]) rfl (Nat.le_of_ble_eq_true rfl) ⟨Nat.le_of_ble_eq_true rfl, Nat.le_of_ble_eq_true rfl⟩ dX6_switched_29) ?_
  exact v_aret C dX6_switched_32 (Prod.mk.inj (Option.some.inj h)).2 (Prod.mk.inj (Option.some.inj h)).1 (Or.inl ⟨_, rfl⟩)
set_option maxRecDepth 100000 in
set_option maxHeartbeats 4000000 in
theorem mX11_switchRule {l : Launch} {D : UD} {bs : Nat} {a0 : Nat} {x1 : Int32} {x2 : Int32} {x3 : Int32} {u0 : UH} {r : Int32} {v : UH} (h : fX11_switchRule a0 x1 x2 x3 u0 = some (r, v)) : Met l yX11_switchRule (wz yX11_switchRule cX11_switchRule 6 (some .int)) rmX11_switchRule (va_Pc [.ref (bs + a0), .int x1, .int x2, .int x3] (uIn D bs u0)) (uQi D bs u0 v r) 1 8 (uA bs u0) := by
  refine uMet (by decide) (Nat.le_of_ble_eq_true rfl) ?_
  intro X tw hX C hin
  have C : uCx X D bs tw cX11_switchRule 6 RX11 (some .int) := C
  have hin : X.2.2.2.2.2.2.2.1.name = "switchRule" := hin
  refine v_L [(0, .ref (bs + a0)), (1, .int x1), (2, .int x2), (3, .int x3)] rfl ?_
  unfold fX11_switchRule at h
  refine v_aload_n C 0 dX11_switchRule_0 rfl rfl ?_
  refine v_iload_n C 1 dX11_switchRule_1 rfl rfl ?_
  refine v_iload_n C 2 dX11_switchRule_2 rfl rfl ?_
  obtain ⟨y1, h1, h⟩ := ob_some h
  obtain ⟨hkd, h1⟩ := kd_some h1
  refine v_goi (rn_V C gcX11_136 (RX11, TX11, 12) rfl rfl (by decide) hkd (mX11_ruleError h1) ⟨rfl, rfl⟩ rfl ⟨Nat.le_of_ble_eq_true rfl, Nat.le_of_ble_eq_true rfl⟩ (rest := []) rfl (Nat.le_of_ble_eq_true rfl) ⟨Nat.le_of_ble_eq_true rfl, Nat.le_of_ble_eq_true rfl⟩ dX11_switchRule_3) ?_
  refine v_istore C [(4, .int y1), (0, .ref (bs + a0)), (1, .int x1), (2, .int x2), (3, .int x3)] dX11_switchRule_6 (by decide) rfl ?_
  refine v_iload C 0 dX11_switchRule_8 rfl ?_
  refine v_ifeq C 16 dX11_switchRule_10 (by decide) h (fun _ h => ?_) (fun _ h => ?_)
  · refine v_aload_n C 1 dX11_switchRule_16 rfl rfl ?_
    refine v_getR C fdX11_14 dX11_switchRule_17 h (fun b2 h => ?_)
    refine v_getR C fdX11_142 dX11_switchRule_20 h (fun b3 h => ?_)
    refine v_iload_n C 2 dX11_switchRule_23 rfl rfl ?_
    refine v_ldR C 26 _ rfl (by decide) dX11_switchRule_24 h (fun b4 h => ?_)
    refine v_getR C fdX11_146 dX11_switchRule_25 h (fun b5 h => ?_)
    refine v_iload_n C 3 dX11_switchRule_28 rfl rfl ?_
    refine v_ldR C 25 _ rfl (by decide) dX11_switchRule_29 h (fun b6 h => ?_)
    refine v_astore C [(5, .ref (bs + b6)), (4, .int y1), (0, .ref (bs + a0)), (1, .int x1), (2, .int x2), (3, .int x3)] dX11_switchRule_30 (by decide) rfl ?_
    refine v_aload_n C 2 dX11_switchRule_32 rfl rfl ?_
    refine v_iload_n C 3 dX11_switchRule_33 rfl rfl ?_
    refine v_iload_n C 4 dX11_switchRule_34 rfl rfl ?_
    refine v_aload C 0 dX11_switchRule_35 rfl ?_
    refine v_iload_n C 5 dX11_switchRule_37 rfl rfl ?_
    obtain ⟨b7, u8, h1, h⟩ := ob2_some h
    obtain ⟨hkd, h1⟩ := kd_some h1
    refine v_gor (rn_V C gcX11_181 (RX6, TX6, 8) rfl rfl (by decide) hkd (mX6_switched h1) ⟨rfl, rfl⟩ rfl ⟨Nat.le_of_ble_eq_true rfl, Nat.le_of_ble_eq_true rfl⟩ (rest := [.int x2, .int x1, .ref (bs + a0)]) rfl (Nat.le_of_ble_eq_true rfl) ⟨Nat.le_of_ble_eq_true rfl, Nat.le_of_ble_eq_true rfl⟩ dX11_switchRule_38) ?_
    obtain ⟨u9, h1, h⟩ := ob_some h
    obtain ⟨hkd, h1⟩ := kd_some h1
    refine v_gov (rn_V C gcX11_159 (RX11, TX11, 12) rfl rfl (by decide) hkd (mX11_replaceRule h1) ⟨rfl, rfl⟩ rfl ⟨Nat.le_of_ble_eq_true rfl, Nat.le_of_ble_eq_true rfl⟩ (rest := []) rfl (Nat.le_of_ble_eq_true rfl) ⟨Nat.le_of_ble_eq_true rfl, Nat.le_of_ble_eq_true rfl⟩ dX11_switchRule_41) ?_
    refine v_aload C 0 dX11_switchRule_44 rfl ?_
    refine v_getI C fdX11_185 dX11_switchRule_46 h (fun y10 h => ?_)
    refine v_iload_n C 5 dX11_switchRule_49 rfl rfl ?_
    refine v_icmpeq C 57 dX11_switchRule_50 (by decide) h (fun _ h => ?_) (fun _ h => ?_)
    · refine v_iconst C (0 : Int32) dX11_switchRule_57 (by decide) ?_
      exact v_iret C dX11_switchRule_58 (Prod.mk.inj (Option.some.inj h)).2 (Prod.mk.inj (Option.some.inj h)).1
    · refine v_iconst C (1 : Int32) dX11_switchRule_53 (by decide) ?_
      refine v_goto C 58 dX11_switchRule_54 (by decide) ?_
      exact v_iret C dX11_switchRule_58 (Prod.mk.inj (Option.some.inj h)).2 (Prod.mk.inj (Option.some.inj h)).1
  · refine v_iload C 0 dX11_switchRule_13 rfl ?_
    refine v_widen 1 8 (Nat.le_of_ble_eq_true rfl) (Nat.le_of_ble_eq_true rfl) ?_
    exact v_iret C dX11_switchRule_15 (Prod.mk.inj (Option.some.inj h)).2 (Prod.mk.inj (Option.some.inj h)).1
set_option maxRecDepth 100000 in
set_option maxHeartbeats 4000000 in
theorem mX3_takeBack {l : Launch} {D : UD} {bs : Nat} {a0 : Nat} {a1 : Nat} {u0 : UH} {v : UH} (h : fX3_takeBack a0 a1 u0 = some v) : Met l yX3_takeBack (wz yX3_takeBack cX3_takeBack 2 none) rmX3_takeBack (va_Pc [.ref (bs + a0), .ref (bs + a1)] (uIn D bs u0)) (uQv D bs u0 v) 0 0 (uA bs u0) := by
  refine uMet (by decide) (Nat.le_of_ble_eq_true rfl) ?_
  intro X tw hX C hin
  have C : uCx X D bs tw cX3_takeBack 2 RX3 none := C
  have hin : X.2.2.2.2.2.2.2.1.name = "takeBack" := hin
  refine v_L [(0, .ref (bs + a0)), (1, .ref (bs + a1))] rfl ?_
  unfold fX3_takeBack at h
  refine v_aload_n C 0 dX3_takeBack_0 rfl rfl ?_
  refine v_aload_n C 0 dX3_takeBack_1 rfl rfl ?_
  refine v_getI C fdX3_29 dX3_takeBack_2 h (fun y1 h => ?_)
  refine v_bipush C (12 : Int32) dX3_takeBack_5 (by decide) ?_
  refine v_iadd C dX3_takeBack_7 ?_
  refine v_iconst C (1 : Int32) dX3_takeBack_8 (by decide) ?_
  refine v_isub C dX3_takeBack_9 ?_
  refine v_bipush C (12 : Int32) dX3_takeBack_10 (by decide) ?_
  refine v_irem C dX3_takeBack_12 (by decide) ?_
  refine v_putI C fdX3_29 (fun h => by cases h) dX3_takeBack_13 h (fun u2 h => ?_)
  refine v_aload_n C 0 dX3_takeBack_16 rfl rfl ?_
  refine v_dup C dX3_takeBack_17 rfl ?_
  refine v_getI C fdX3_37 dX3_takeBack_18 h (fun y3 h => ?_)
  refine v_iconst C (1 : Int32) dX3_takeBack_21 (by decide) ?_
  refine v_isub C dX3_takeBack_22 ?_
  refine v_putI C fdX3_37 (fun h => by cases h) dX3_takeBack_23 h (fun u4 h => ?_)
  refine v_aload_n C 1 dX3_takeBack_26 rfl rfl ?_
  refine v_getR C fdX3_46 dX3_takeBack_27 h (fun b5 h => ?_)
  refine v_aload_n C 0 dX3_takeBack_30 rfl rfl ?_
  refine v_getR C fdX3_17 dX3_takeBack_31 h (fun b6 h => ?_)
  refine v_aload_n C 0 dX3_takeBack_34 rfl rfl ?_
  refine v_getI C fdX3_29 dX3_takeBack_35 h (fun y7 h => ?_)
  refine v_ldI C dX3_takeBack_38 h (fun y8 h => ?_)
  refine v_ldR C 26 _ rfl (by decide) dX3_takeBack_39 h (fun b9 h => ?_)
  refine v_aload_n C 0 dX3_takeBack_40 rfl rfl ?_
  refine v_getR C fdX3_11 dX3_takeBack_41 h (fun b10 h => ?_)
  refine v_aload_n C 0 dX3_takeBack_44 rfl rfl ?_
  refine v_getI C fdX3_29 dX3_takeBack_45 h (fun y11 h => ?_)
  refine v_ldR C 26 _ rfl (by decide) dX3_takeBack_48 h (fun b12 h => ?_)
  obtain ⟨u13, h1, h⟩ := ob_some h
  obtain ⟨hkd, h1⟩ := kd_some h1
  refine v_gov (rn_V C gcX3_33 (RX7, TX7, 2) rfl rfl (by decide) hkd (mX7_copyFrom h1) ⟨rfl, rfl⟩ rfl ⟨Nat.le_of_ble_eq_true rfl, Nat.le_of_ble_eq_true rfl⟩ (rest := []) rfl (Nat.le_of_ble_eq_true rfl) ⟨Nat.le_of_ble_eq_true rfl, Nat.le_of_ble_eq_true rfl⟩ dX3_takeBack_49) ?_
  exact v_vret C dX3_takeBack_52 (Option.some.inj h)
set_option maxRecDepth 100000 in
set_option maxHeartbeats 4000000 in
theorem mX11_undo {l : Launch} {D : UD} {bs : Nat} {a0 : Nat} {u0 : UH} {r : Int32} {v : UH} (h : fX11_undo a0 u0 = some (r, v)) : Met l yX11_undo (wz yX11_undo cX11_undo 1 (some .int)) rmX11_undo (va_Pc [.ref (bs + a0)] (uIn D bs u0)) (uQi D bs u0 v r) 0 0 (uA bs u0) := by
  refine uMet (by decide) (Nat.le_of_ble_eq_true rfl) ?_
  intro X tw hX C hin
  have C : uCx X D bs tw cX11_undo 1 RX11 (some .int) := C
  have hin : X.2.2.2.2.2.2.2.1.name = "undo" := hin
  refine v_L [(0, .ref (bs + a0))] rfl ?_
  unfold fX11_undo at h
  refine v_aload_n C 0 dX11_undo_0 rfl rfl ?_
  refine v_getR C fdX11_21 dX11_undo_1 h (fun b1 h => ?_)
  refine v_getI C fdX11_92 dX11_undo_4 h (fun y2 h => ?_)
  refine v_ifne C 13 dX11_undo_7 (by decide) h (fun _ h => ?_) (fun _ h => ?_)
  · refine v_aload_n C 0 dX11_undo_13 rfl rfl ?_
    refine v_getR C fdX11_21 dX11_undo_14 h (fun b3 h => ?_)
    refine v_aload_n C 0 dX11_undo_17 rfl rfl ?_
    refine v_getR C fdX11_14 dX11_undo_18 h (fun b4 h => ?_)
    obtain ⟨u5, h1, h⟩ := ob_some h
    obtain ⟨hkd, h1⟩ := kd_some h1
    refine v_gov (rn_V C gcX11_189 (RX3, TX3, 4) rfl rfl (by decide) hkd (mX3_takeBack h1) ⟨rfl, rfl⟩ rfl ⟨Nat.le_of_ble_eq_true rfl, Nat.le_of_ble_eq_true rfl⟩ (rest := []) rfl (Nat.le_of_ble_eq_true rfl) ⟨Nat.le_of_ble_eq_true rfl, Nat.le_of_ble_eq_true rfl⟩ dX11_undo_21) ?_
    refine v_aload_n C 0 dX11_undo_24 rfl rfl ?_
    refine v_getR C fdX11_21 dX11_undo_25 h (fun b6 h => ?_)
    refine v_getI C fdX11_92 dX11_undo_28 h (fun y7 h => ?_)
    exact v_iret C dX11_undo_31 (Prod.mk.inj (Option.some.inj h)).2 (Prod.mk.inj (Option.some.inj h)).1
  · refine v_bipush C (-6 : Int32) dX11_undo_10 (by decide) ?_
    exact v_iret C dX11_undo_12 (Prod.mk.inj (Option.some.inj h)).2 (Prod.mk.inj (Option.some.inj h)).1
set_option maxRecDepth 100000 in
set_option maxHeartbeats 4000000 in
theorem mX11_rule {l : Launch} {D : UD} {bs : Nat} {a0 : Nat} {x1 : Int32} {x2 : Int32} {x3 : Int32} {u0 : UH} {r : Int32} (h : fX11_rule a0 x1 x2 x3 u0 = some r) : Met l yX11_rule (wz yX11_rule cX11_rule 6 (some .int)) rmX11_rule (va_Pc [.ref (bs + a0), .int x1, .int x2, .int x3] (uIn D bs u0)) (uQi D bs u0 u0 r) 0 0 (uA bs u0) := by
  refine uMet (by decide) (Nat.le_of_ble_eq_true rfl) ?_
  intro X tw hX C hin
  have C : uCx X D bs tw cX11_rule 6 RX11 (some .int) := C
  have hin : X.2.2.2.2.2.2.2.1.name = "rule" := hin
  refine v_L [(0, .ref (bs + a0)), (1, .int x1), (2, .int x2), (3, .int x3)] rfl ?_
  unfold fX11_rule at h
  refine v_aload_n C 0 dX11_rule_0 rfl rfl ?_
  refine v_iload_n C 1 dX11_rule_1 rfl rfl ?_
  refine v_iload_n C 2 dX11_rule_2 rfl rfl ?_
  obtain ⟨y1, h1, h⟩ := ob_some h
  obtain ⟨hkd, h1⟩ := kd_some h1
  refine v_goi (rn_V C gcX11_136 (RX11, TX11, 12) rfl rfl (by decide) hkd (mX11_ruleError h1) ⟨rfl, rfl⟩ rfl ⟨Nat.le_of_ble_eq_true rfl, Nat.le_of_ble_eq_true rfl⟩ (rest := []) rfl (Nat.le_of_ble_eq_true rfl) ⟨Nat.le_of_ble_eq_true rfl, Nat.le_of_ble_eq_true rfl⟩ dX11_rule_3) ?_
  refine v_istore C [(4, .int y1), (0, .ref (bs + a0)), (1, .int x1), (2, .int x2), (3, .int x3)] dX11_rule_6 (by decide) rfl ?_
  refine v_iload C 0 dX11_rule_8 rfl ?_
  refine v_ifeq C 16 dX11_rule_10 (by decide) h (fun _ h => ?_) (fun _ h => ?_)
  · refine v_aload_n C 1 dX11_rule_16 rfl rfl ?_
    refine v_getR C fdX11_14 dX11_rule_17 h (fun b2 h => ?_)
    refine v_getR C fdX11_142 dX11_rule_20 h (fun b3 h => ?_)
    refine v_iload_n C 2 dX11_rule_23 rfl rfl ?_
    refine v_ldR C 26 _ rfl (by decide) dX11_rule_24 h (fun b4 h => ?_)
    refine v_getR C fdX11_146 dX11_rule_25 h (fun b5 h => ?_)
    refine v_iload_n C 3 dX11_rule_28 rfl rfl ?_
    refine v_ldR C 25 _ rfl (by decide) dX11_rule_29 h (fun b6 h => ?_)
    refine v_astore C [(5, .ref (bs + b6)), (4, .int y1), (0, .ref (bs + a0)), (1, .int x1), (2, .int x2), (3, .int x3)] dX11_rule_30 (by decide) rfl ?_
    refine v_iload_n C 5 dX11_rule_32 rfl rfl ?_
    refine v_tsw C 6 dX11_rule_33 rfl (by decide) rfl (fun j hj hx off ho => ?_) 126 (by decide) (fun hx => ?_)
    · rcases (show j = 0 ∨ j = 1 ∨ j = 2 ∨ j = 3 ∨ j = 4 ∨ j = 5 ∨ j = 6 by omega) with rfl | rfl | rfl | rfl | rfl | rfl | rfl
      · refine ⟨76, by cases ho; rfl, ?_⟩
        rw [if_pos hx] at h
        refine v_aload C 0 dX11_rule_76 rfl ?_
        refine v_getI C fdX11_192 dX11_rule_78 h (fun y7 h => ?_)
        exact v_iret C dX11_rule_81 rfl (Option.some.inj h)
      · refine ⟨82, by cases ho; rfl, ?_⟩
        rw [if_neg (by rw [hx]; decide)] at h
        rw [if_pos hx] at h
        refine v_aload C 0 dX11_rule_82 rfl ?_
        refine v_getI C fdX11_195 dX11_rule_84 h (fun y8 h => ?_)
        exact v_iret C dX11_rule_87 rfl (Option.some.inj h)
      · refine ⟨88, by cases ho; rfl, ?_⟩
        rw [if_neg (by rw [hx]; decide)] at h
        rw [if_neg (by rw [hx]; decide)] at h
        rw [if_pos hx] at h
        refine v_aload C 0 dX11_rule_88 rfl ?_
        refine v_getI C fdX11_198 dX11_rule_90 h (fun y9 h => ?_)
        exact v_iret C dX11_rule_93 rfl (Option.some.inj h)
      · refine ⟨94, by cases ho; rfl, ?_⟩
        rw [if_neg (by rw [hx]; decide)] at h
        rw [if_neg (by rw [hx]; decide)] at h
        rw [if_neg (by rw [hx]; decide)] at h
        rw [if_pos hx] at h
        refine v_aload C 0 dX11_rule_94 rfl ?_
        refine v_getI C fdX11_152 dX11_rule_96 h (fun y10 h => ?_)
        exact v_iret C dX11_rule_99 rfl (Option.some.inj h)
      · refine ⟨100, by cases ho; rfl, ?_⟩
        rw [if_neg (by rw [hx]; decide)] at h
        rw [if_neg (by rw [hx]; decide)] at h
        rw [if_neg (by rw [hx]; decide)] at h
        rw [if_neg (by rw [hx]; decide)] at h
        rw [if_pos hx] at h
        refine v_aload C 0 dX11_rule_100 rfl ?_
        refine v_getI C fdX11_163 dX11_rule_102 h (fun y11 h => ?_)
        exact v_iret C dX11_rule_105 rfl (Option.some.inj h)
      · refine ⟨106, by cases ho; rfl, ?_⟩
        rw [if_neg (by rw [hx]; decide)] at h
        rw [if_neg (by rw [hx]; decide)] at h
        rw [if_neg (by rw [hx]; decide)] at h
        rw [if_neg (by rw [hx]; decide)] at h
        rw [if_neg (by rw [hx]; decide)] at h
        rw [if_pos hx] at h
        refine v_aload C 0 dX11_rule_106 rfl ?_
        refine v_getI C fdX11_166 dX11_rule_108 h (fun y12 h => ?_)
        exact v_iret C dX11_rule_111 rfl (Option.some.inj h)
      · refine ⟨112, by cases ho; rfl, ?_⟩
        rw [if_neg (by rw [hx]; decide)] at h
        rw [if_neg (by rw [hx]; decide)] at h
        rw [if_neg (by rw [hx]; decide)] at h
        rw [if_neg (by rw [hx]; decide)] at h
        rw [if_neg (by rw [hx]; decide)] at h
        rw [if_neg (by rw [hx]; decide)] at h
        rw [if_pos hx] at h
        refine v_aload C 0 dX11_rule_112 rfl ?_
        refine v_getI C fdX11_185 dX11_rule_114 h (fun y13 h => ?_)
        refine v_ifeq C 124 dX11_rule_117 (by decide) h (fun _ h => ?_) (fun _ h => ?_)
        · refine v_iconst C (0 : Int32) dX11_rule_124 (by decide) ?_
          exact v_iret C dX11_rule_125 rfl (Option.some.inj h)
        · refine v_iconst C (1 : Int32) dX11_rule_120 (by decide) ?_
          refine v_goto C 125 dX11_rule_121 (by decide) ?_
          exact v_iret C dX11_rule_125 rfl (Option.some.inj h)
    · rw [if_neg (hx 0 (by decide))] at h
      rw [if_neg (hx 1 (by decide))] at h
      rw [if_neg (hx 2 (by decide))] at h
      rw [if_neg (hx 3 (by decide))] at h
      rw [if_neg (hx 4 (by decide))] at h
      rw [if_neg (hx 5 (by decide))] at h
      rw [if_neg (hx 6 (by decide))] at h
      refine v_bipush C (-3 : Int32) dX11_rule_126 (by decide) ?_
      exact v_iret C dX11_rule_128 rfl (Option.some.inj h)
  · refine v_iload C 0 dX11_rule_13 rfl ?_
    exact v_iret C dX11_rule_15 rfl (Option.some.inj h)
