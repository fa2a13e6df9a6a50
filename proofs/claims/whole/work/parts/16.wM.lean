set_option maxRecDepth 100000 in
set_option maxHeartbeats 4000000 in
theorem wX12_begin_B2 {X : UX} {D : UD} {bs tw : Nat} {u0 : UH} {v : UH} (C : uCx X D bs tw cX12_begin 2 RX12 none) (hin : X.2.2.2.2.2.2.2.1.name = "begin") {a0 : Nat}  {G : UH → Prop} {k : Int32 → UH → Option UH} (hk : ∀ (x1 : Int32) (u' : UH) e, k x1 u' = some e → G e → VV X D bs u0 rmX12_begin 2 0 0 (MQ X.2.2.2.2.2.2.1 (uQv D bs u0 v) X.2.2.2.2.2.1 X.2.2.2.1 0 0 (uA bs u0)) u' 2 [(0, .ref (bs + a0)), (1, .int x1)] []) (hex : ∀  (u' : UH), G u' → VV X D bs u0 rmX12_begin 2 0 0 (MQ X.2.2.2.2.2.2.1 (uQv D bs u0 v) X.2.2.2.2.2.1 X.2.2.2.1 0 0 (uA bs u0)) u' 21 [(0, .ref (bs + a0))] [])  : ∀ (x1 : Int32) (u : UH) e, fX12_begin_B2 a0  k x1 u = some e → G e → VV X D bs u0 rmX12_begin 2 0 0 (MQ X.2.2.2.2.2.2.1 (uQv D bs u0 v) X.2.2.2.2.2.1 X.2.2.2.1 0 0 (uA bs u0)) u 2 [(0, .ref (bs + a0)), (1, .int x1)] [] := by
  intro x1 u e h g
  unfold fX12_begin_B2 at h
  refine v_iload_n C 1 dX12_begin_2 rfl rfl ?_
  refine v_bipush C (24 : Int32) dX12_begin_3 (by decide) ?_
  refine v_icmpge C 21 dX12_begin_5 (by decide) h (fun _ h => ?_) (fun _ h => ?_)
  · refine v_sub [(0, .ref (bs + a0))] [0] rfl ?_
    exact hex u ((Option.some.inj h).symm ▸ g)
  · refine v_aload_n C 0 dX12_begin_8 rfl rfl ?_
    refine v_getR C fdX12_7 dX12_begin_9 h (fun b1 h => ?_)
    refine v_iload_n C 1 dX12_begin_12 rfl rfl ?_
    refine v_iconst C (-1 : Int32) dX12_begin_13 (by decide) ?_
    refine v_stI C dX12_begin_14 h (fun u2 h => ?_)
    refine v_iinc C 1 (x1 + (1 : Int32)) [(1, .int (x1 + (1 : Int32))), (0, .ref (bs + a0))] dX12_begin_15 rfl rfl (by decide) rfl ?_
    refine v_goto C 2 dX12_begin_18 (by decide) ?_
    refine v_sub [(0, .ref (bs + a0)), (1, .int (x1 + (1 : Int32)))] [1, 0] rfl ?_
    exact hk (x1 + (1 : Int32)) u2 _ h g
set_option maxRecDepth 100000 in
set_option maxHeartbeats 4000000 in
theorem wX12_begin_B28 {X : UX} {D : UD} {bs tw : Nat} {u0 : UH} {v : UH} (C : uCx X D bs tw cX12_begin 2 RX12 none) (hin : X.2.2.2.2.2.2.2.1.name = "begin") {a0 : Nat}  {G : UH → Prop} {k : Int32 → UH → Option UH} (hk : ∀ (x1 : Int32) (u' : UH) e, k x1 u' = some e → G e → VV X D bs u0 rmX12_begin 2 0 0 (MQ X.2.2.2.2.2.2.1 (uQv D bs u0 v) X.2.2.2.2.2.1 X.2.2.2.1 0 0 (uA bs u0)) u' 28 [(0, .ref (bs + a0)), (1, .int x1)] []) (hex : ∀  (u' : UH), G u' → VV X D bs u0 rmX12_begin 2 0 0 (MQ X.2.2.2.2.2.2.1 (uQv D bs u0 v) X.2.2.2.2.2.1 X.2.2.2.1 0 0 (uA bs u0)) u' 51 [(0, .ref (bs + a0))] [])  : ∀ (x1 : Int32) (u : UH) e, fX12_begin_B28 a0  k x1 u = some e → G e → VV X D bs u0 rmX12_begin 2 0 0 (MQ X.2.2.2.2.2.2.1 (uQv D bs u0 v) X.2.2.2.2.2.1 X.2.2.2.1 0 0 (uA bs u0)) u 28 [(0, .ref (bs + a0)), (1, .int x1)] [] := by
  intro x1 u e h g
  unfold fX12_begin_B28 at h
  refine v_iload_n C 1 dX12_begin_28 rfl rfl ?_
  refine v_bipush C (6 : Int32) dX12_begin_29 (by decide) ?_
  refine v_icmpge C 51 dX12_begin_31 (by decide) h (fun _ h => ?_) (fun _ h => ?_)
  · refine v_sub [(0, .ref (bs + a0))] [0] rfl ?_
    exact hex u ((Option.some.inj h).symm ▸ g)
  · refine v_aload_n C 0 dX12_begin_34 rfl rfl ?_
    refine v_getR C fdX12_13 dX12_begin_35 h (fun b6 h => ?_)
    refine v_sipush C (252 : Int32) dX12_begin_38 (by decide) ?_
    refine v_iload_n C 1 dX12_begin_41 rfl rfl ?_
    refine v_iadd C dX12_begin_42 ?_
    refine v_iconst C (0 : Int32) dX12_begin_43 (by decide) ?_
    refine v_stI C dX12_begin_44 h (fun u7 h => ?_)
    refine v_iinc C 1 (x1 + (1 : Int32)) [(1, .int (x1 + (1 : Int32))), (0, .ref (bs + a0))] dX12_begin_45 rfl rfl (by decide) rfl ?_
    refine v_goto C 28 dX12_begin_48 (by decide) ?_
    refine v_sub [(0, .ref (bs + a0)), (1, .int (x1 + (1 : Int32)))] [1, 0] rfl ?_
    exact hk (x1 + (1 : Int32)) u7 _ h g
set_option maxRecDepth 100000 in
set_option maxHeartbeats 4000000 in
theorem mX12_begin {l : Launch} {D : UD} {bs : Nat} {a0 : Nat} {u0 : UH} {v : UH} (h : fX12_begin a0 u0 = some v) : Met l yX12_begin (wz yX12_begin cX12_begin 2 none) rmX12_begin (va_Pc [.ref (bs + a0)] (uIn D bs u0)) (uQv D bs u0 v) 0 0 (uA bs u0) := by
  refine uMet (by decide) (Nat.le_of_ble_eq_true rfl) ?_
  intro X tw hX C hin
  have C : uCx X D bs tw cX12_begin 2 RX12 none := C
  have hin : X.2.2.2.2.2.2.2.1.name = "begin" := hin
  refine v_L [(0, .ref (bs + a0))] rfl ?_
  unfold fX12_begin at h
  refine v_iconst C (0 : Int32) dX12_begin_0 (by decide) ?_
  refine v_istore_n C [(1, .int (0 : Int32)), (0, .ref (bs + a0))] dX12_begin_1 rfl (by decide) rfl ?_
  refine v_sub [(0, .ref (bs + a0)), (1, .int (0 : Int32))] [1, 0] rfl ?_
  refine it2_O (V := fun x1 u' => VV X D bs u0 rmX12_begin 2 0 0 (MQ X.2.2.2.2.2.2.1 (uQv D bs u0 v) X.2.2.2.2.2.1 X.2.2.2.1 0 0 (uA bs u0)) u' 2 [(0, .ref (bs + a0)), (1, .int x1)] []) h (fun k_ hk_ => wX12_begin_B2 C hin hk_ ?_ )
  intro z4 h
  try dsimp only [Sum.elim_inl] at h
  refine v_aload_n C 0 dX12_begin_21 rfl rfl ?_
  refine v_iconst C (0 : Int32) dX12_begin_22 (by decide) ?_
  refine v_putI C fdX12_76 (fun h => by cases h) dX12_begin_23 h (fun u5 h => ?_)
  refine v_iconst C (0 : Int32) dX12_begin_26 (by decide) ?_
  refine v_istore_n C [(1, .int (0 : Int32)), (0, .ref (bs + a0))] dX12_begin_27 rfl (by decide) rfl ?_
  refine v_sub [(0, .ref (bs + a0)), (1, .int (0 : Int32))] [1, 0] rfl ?_
  refine it2_O (V := fun x1 u' => VV X D bs u0 rmX12_begin 2 0 0 (MQ X.2.2.2.2.2.2.1 (uQv D bs u0 v) X.2.2.2.2.2.1 X.2.2.2.1 0 0 (uA bs u0)) u' 28 [(0, .ref (bs + a0)), (1, .int x1)] []) h (fun k_ hk_ => wX12_begin_B28 C hin hk_ ?_ )
  intro z7 h
  try dsimp only [Sum.elim_inl] at h
  refine v_aload_n C 0 dX12_begin_51 rfl rfl ?_
  refine v_iconst C (0 : Int32) dX12_begin_52 (by decide) ?_
  refine v_putI C fdX12_79 (fun h => by cases h) dX12_begin_53 h (fun u8 h => ?_)
  refine v_aload_n C 0 dX12_begin_56 rfl rfl ?_
  refine v_iconst C (0 : Int32) dX12_begin_57 (by decide) ?_
  refine v_putI C fdX12_82 (fun h => by cases h) dX12_begin_58 h (fun u9 h => ?_)
  refine v_aload_n C 0 dX12_begin_61 rfl rfl ?_
  refine v_iconst C (0 : Int32) dX12_begin_62 (by decide) ?_
  refine v_putI C fdX12_85 (fun h => by cases h) dX12_begin_63 h (fun u10 h => ?_)
  refine v_aload_n C 0 dX12_begin_66 rfl rfl ?_
  refine v_iconst C (0 : Int32) dX12_begin_67 (by decide) ?_
  refine v_putI C fdX12_88 (fun h => by cases h) dX12_begin_68 h (fun u11 h => ?_)
  refine v_aload_n C 0 dX12_begin_71 rfl rfl ?_
  refine v_iconst C (0 : Int32) dX12_begin_72 (by decide) ?_
  refine v_putI C fdX12_91 (fun h => by cases h) dX12_begin_73 h (fun u12 h => ?_)
  exact v_vret C dX12_begin_76 (Option.some.inj h)
set_option maxRecDepth 100000 in
set_option maxHeartbeats 4000000 in
theorem mX12_init {l : Launch} {D : UD} {bs : Nat} {a0 : Nat} {u0 : UH} {v : UH} (h : fX12_init a0 u0 = some v) : Met l yX12_init (wz yX12_init cX12_init 1 none) rmX12_init (va_Pc [.ref (bs + a0)] (uIn D bs u0)) (uQv D bs u0 v) 18 4388 (uA bs u0) := by
  refine uMet (by decide) (Nat.le_of_ble_eq_true rfl) ?_
  intro X tw hX C hin
  have C : uCx X D bs tw cX12_init 1 RX12 none := C
  have hin : X.2.2.2.2.2.2.2.1.name = "<init>" := hin
  refine v_L [(0, .ref (bs + a0))] rfl ?_
  unfold fX12_init at h
  refine v_aload_n C 0 dX12_init_0 rfl rfl ?_
  refine v_objInit C tw899 tw23 tw24 (Nat.le_of_ble_eq_true rfl) (Nat.le_of_ble_eq_true rfl) dX12_init_1 ?_
  refine v_aload_n C 0 dX12_init_4 rfl rfl ?_
  refine v_bipush C (24 : Int32) dX12_init_5 (by decide) ?_
  refine v_newaP C (atype := .int) 20 24 rfl tw89 (Or.inr ⟨by decide, by decide, rfl⟩) (by decide) (fun t h cA hc => by obtain ⟨_, _, rfl⟩ := h; exact hc) (by decide) (by decide) (Nat.le_of_ble_eq_true rfl) (Nat.le_of_ble_eq_true rfl) (Nat.le_of_ble_eq_true rfl) dX12_init_7 h (fun b1 u2 h => ?_)
  refine v_putR C fdX12_7 (fun _ => rfl) (fun _ => rfl) (fun _ => hin) dX12_init_9 h (fun u3 h => ?_)
  refine v_aload_n C 0 dX12_init_12 rfl rfl ?_
  refine v_sipush C (258 : Int32) dX12_init_13 (by decide) ?_
  refine v_newaP C (atype := .int) 20 258 rfl tw89 (Or.inr ⟨by decide, by decide, rfl⟩) (by decide) (fun t h cA hc => by obtain ⟨_, _, rfl⟩ := h; exact hc) (by decide) (by decide) (Nat.le_of_ble_eq_true rfl) (Nat.le_of_ble_eq_true rfl) (Nat.le_of_ble_eq_true rfl) dX12_init_16 h (fun b4 u5 h => ?_)
  refine v_putR C fdX12_13 (fun _ => rfl) (fun _ => rfl) (fun _ => hin) dX12_init_18 h (fun u6 h => ?_)
  refine v_aload_n C 0 dX12_init_21 rfl rfl ?_
  refine v_sipush C (3096 : Int32) dX12_init_22 (by decide) ?_
  refine v_newaP C (atype := .int) 20 3096 rfl tw89 (Or.inr ⟨by decide, by decide, rfl⟩) (by decide) (fun t h cA hc => by obtain ⟨_, _, rfl⟩ := h; exact hc) (by decide) (by decide) (Nat.le_of_ble_eq_true rfl) (Nat.le_of_ble_eq_true rfl) (Nat.le_of_ble_eq_true rfl) dX12_init_25 h (fun b7 u8 h => ?_)
  refine v_putR C fdX12_16 (fun _ => rfl) (fun _ => rfl) (fun _ => hin) dX12_init_27 h (fun u9 h => ?_)
  refine v_aload_n C 0 dX12_init_30 rfl rfl ?_
  refine v_bipush C (7 : Int32) dX12_init_31 (by decide) ?_
  refine v_newaP C (atype := .int) 20 7 rfl tw89 (Or.inr ⟨by decide, by decide, rfl⟩) (by decide) (fun t h cA hc => by obtain ⟨_, _, rfl⟩ := h; exact hc) (by decide) (by decide) (Nat.le_of_ble_eq_true rfl) (Nat.le_of_ble_eq_true rfl) (Nat.le_of_ble_eq_true rfl) dX12_init_33 h (fun b10 u11 h => ?_)
  refine v_putR C fdX12_19 (fun _ => rfl) (fun _ => rfl) (fun _ => hin) dX12_init_35 h (fun u12 h => ?_)
  refine v_aload_n C 0 dX12_init_38 rfl rfl ?_
  refine v_bipush C (24 : Int32) dX12_init_39 (by decide) ?_
  refine v_newaP C (atype := .long) 21 24 rfl tw190 (Or.inl ⟨rfl, rfl⟩) (by decide) (fun t h cA hc => by obtain ⟨_, _, rfl⟩ := h; exact hc) (by decide) (by decide) (Nat.le_of_ble_eq_true rfl) (Nat.le_of_ble_eq_true rfl) (Nat.le_of_ble_eq_true rfl) dX12_init_41 h (fun b13 u14 h => ?_)
  refine v_putR C fdX12_22 (fun _ => rfl) (fun _ => rfl) (fun _ => hin) dX12_init_43 h (fun u15 h => ?_)
  refine v_aload_n C 0 dX12_init_46 rfl rfl ?_
  refine v_bipush C (24 : Int32) dX12_init_47 (by decide) ?_
  refine v_newaP C (atype := .long) 21 24 rfl tw190 (Or.inl ⟨rfl, rfl⟩) (by decide) (fun t h cA hc => by obtain ⟨_, _, rfl⟩ := h; exact hc) (by decide) (by decide) (Nat.le_of_ble_eq_true rfl) (Nat.le_of_ble_eq_true rfl) (Nat.le_of_ble_eq_true rfl) dX12_init_49 h (fun b16 u17 h => ?_)
  refine v_putR C fdX12_26 (fun _ => rfl) (fun _ => rfl) (fun _ => hin) dX12_init_51 h (fun u18 h => ?_)
  refine v_aload_n C 0 dX12_init_54 rfl rfl ?_
  refine v_bipush C (24 : Int32) dX12_init_55 (by decide) ?_
  refine v_newaP C (atype := .long) 21 24 rfl tw190 (Or.inl ⟨rfl, rfl⟩) (by decide) (fun t h cA hc => by obtain ⟨_, _, rfl⟩ := h; exact hc) (by decide) (by decide) (Nat.le_of_ble_eq_true rfl) (Nat.le_of_ble_eq_true rfl) (Nat.le_of_ble_eq_true rfl) dX12_init_57 h (fun b19 u20 h => ?_)
  refine v_putR C fdX12_29 (fun _ => rfl) (fun _ => rfl) (fun _ => hin) dX12_init_59 h (fun u21 h => ?_)
  refine v_aload_n C 0 dX12_init_62 rfl rfl ?_
  refine v_bipush C (24 : Int32) dX12_init_63 (by decide) ?_
  refine v_newaP C (atype := .long) 21 24 rfl tw190 (Or.inl ⟨rfl, rfl⟩) (by decide) (fun t h cA hc => by obtain ⟨_, _, rfl⟩ := h; exact hc) (by decide) (by decide) (Nat.le_of_ble_eq_true rfl) (Nat.le_of_ble_eq_true rfl) (Nat.le_of_ble_eq_true rfl) dX12_init_65 h (fun b22 u23 h => ?_)
  refine v_putR C fdX12_32 (fun _ => rfl) (fun _ => rfl) (fun _ => hin) dX12_init_67 h (fun u24 h => ?_)
  refine v_aload_n C 0 dX12_init_70 rfl rfl ?_
  refine v_sipush C (768 : Int32) dX12_init_71 (by decide) ?_
  refine v_newaP C (atype := .int) 20 768 rfl tw89 (Or.inr ⟨by decide, by decide, rfl⟩) (by decide) (fun t h cA hc => by obtain ⟨_, _, rfl⟩ := h; exact hc) (by decide) (by decide) (Nat.le_of_ble_eq_true rfl) (Nat.le_of_ble_eq_true rfl) (Nat.le_of_ble_eq_true rfl) dX12_init_74 h (fun b25 u26 h => ?_)
  refine v_putR C fdX12_35 (fun _ => rfl) (fun _ => rfl) (fun _ => hin) dX12_init_76 h (fun u27 h => ?_)
  refine v_aload_n C 0 dX12_init_79 rfl rfl ?_
  refine v_bipush C (24 : Int32) dX12_init_80 (by decide) ?_
  refine v_newaP C (atype := .long) 21 24 rfl tw190 (Or.inl ⟨rfl, rfl⟩) (by decide) (fun t h cA hc => by obtain ⟨_, _, rfl⟩ := h; exact hc) (by decide) (by decide) (Nat.le_of_ble_eq_true rfl) (Nat.le_of_ble_eq_true rfl) (Nat.le_of_ble_eq_true rfl) dX12_init_82 h (fun b28 u29 h => ?_)
  refine v_putR C fdX12_38 (fun _ => rfl) (fun _ => rfl) (fun _ => hin) dX12_init_84 h (fun u30 h => ?_)
  refine v_aload_n C 0 dX12_init_87 rfl rfl ?_
  refine v_iconst C (3 : Int32) dX12_init_88 (by decide) ?_
  refine v_newaP C (atype := .int) 20 3 rfl tw89 (Or.inr ⟨by decide, by decide, rfl⟩) (by decide) (fun t h cA hc => by obtain ⟨_, _, rfl⟩ := h; exact hc) (by decide) (by decide) (Nat.le_of_ble_eq_true rfl) (Nat.le_of_ble_eq_true rfl) (Nat.le_of_ble_eq_true rfl) dX12_init_89 h (fun b31 u32 h => ?_)
  refine v_putR C fdX12_41 (fun _ => rfl) (fun _ => rfl) (fun _ => hin) dX12_init_91 h (fun u33 h => ?_)
  refine v_aload_n C 0 dX12_init_94 rfl rfl ?_
  refine v_bipush C (8 : Int32) dX12_init_95 (by decide) ?_
  refine v_newaP C (atype := .boolean) 23 8 rfl tw1004 (Or.inr ⟨by decide, by decide, rfl⟩) (by decide) (fun t h cA hc => by obtain ⟨_, _, rfl⟩ := h; exact hc) (by decide) (by decide) (Nat.le_of_ble_eq_true rfl) (Nat.le_of_ble_eq_true rfl) (Nat.le_of_ble_eq_true rfl) dX12_init_97 h (fun b34 u35 h => ?_)
  refine v_putR C fdX12_44 (fun _ => rfl) (fun _ => rfl) (fun _ => hin) dX12_init_99 h (fun u36 h => ?_)
  refine v_aload_n C 0 dX12_init_102 rfl rfl ?_
  refine v_bipush C (8 : Int32) dX12_init_103 (by decide) ?_
  refine v_newaP C (atype := .int) 20 8 rfl tw89 (Or.inr ⟨by decide, by decide, rfl⟩) (by decide) (fun t h cA hc => by obtain ⟨_, _, rfl⟩ := h; exact hc) (by decide) (by decide) (Nat.le_of_ble_eq_true rfl) (Nat.le_of_ble_eq_true rfl) (Nat.le_of_ble_eq_true rfl) dX12_init_105 h (fun b37 u38 h => ?_)
  refine v_putR C fdX12_48 (fun _ => rfl) (fun _ => rfl) (fun _ => hin) dX12_init_107 h (fun u39 h => ?_)
  refine v_aload_n C 0 dX12_init_110 rfl rfl ?_
  refine v_bipush C (8 : Int32) dX12_init_111 (by decide) ?_
  refine v_newaP C (atype := .int) 20 8 rfl tw89 (Or.inr ⟨by decide, by decide, rfl⟩) (by decide) (fun t h cA hc => by obtain ⟨_, _, rfl⟩ := h; exact hc) (by decide) (by decide) (Nat.le_of_ble_eq_true rfl) (Nat.le_of_ble_eq_true rfl) (Nat.le_of_ble_eq_true rfl) dX12_init_113 h (fun b40 u41 h => ?_)
  refine v_putR C fdX12_51 (fun _ => rfl) (fun _ => rfl) (fun _ => hin) dX12_init_115 h (fun u42 h => ?_)
  refine v_aload_n C 0 dX12_init_118 rfl rfl ?_
  refine v_bipush C (8 : Int32) dX12_init_119 (by decide) ?_
  refine v_newaP C (atype := .int) 20 8 rfl tw89 (Or.inr ⟨by decide, by decide, rfl⟩) (by decide) (fun t h cA hc => by obtain ⟨_, _, rfl⟩ := h; exact hc) (by decide) (by decide) (Nat.le_of_ble_eq_true rfl) (Nat.le_of_ble_eq_true rfl) (Nat.le_of_ble_eq_true rfl) dX12_init_121 h (fun b43 u44 h => ?_)
  refine v_putR C fdX12_54 (fun _ => rfl) (fun _ => rfl) (fun _ => hin) dX12_init_123 h (fun u45 h => ?_)
  refine v_aload_n C 0 dX12_init_126 rfl rfl ?_
  refine v_bipush C (8 : Int32) dX12_init_127 (by decide) ?_
  refine v_newaP C (atype := .int) 20 8 rfl tw89 (Or.inr ⟨by decide, by decide, rfl⟩) (by decide) (fun t h cA hc => by obtain ⟨_, _, rfl⟩ := h; exact hc) (by decide) (by decide) (Nat.le_of_ble_eq_true rfl) (Nat.le_of_ble_eq_true rfl) (Nat.le_of_ble_eq_true rfl) dX12_init_129 h (fun b46 u47 h => ?_)
  refine v_putR C fdX12_57 (fun _ => rfl) (fun _ => rfl) (fun _ => hin) dX12_init_131 h (fun u48 h => ?_)
  refine v_aload_n C 0 dX12_init_134 rfl rfl ?_
  refine v_bipush C (40 : Int32) dX12_init_135 (by decide) ?_
  refine v_newaP C (atype := .char) 22 40 rfl tw308 (Or.inr ⟨by decide, by decide, rfl⟩) (by decide) (fun t h cA hc => by obtain ⟨_, _, rfl⟩ := h; exact hc) (by decide) (by decide) (Nat.le_of_ble_eq_true rfl) (Nat.le_of_ble_eq_true rfl) (Nat.le_of_ble_eq_true rfl) dX12_init_137 h (fun b49 u50 h => ?_)
  refine v_putR C fdX12_60 (fun _ => rfl) (fun _ => rfl) (fun _ => hin) dX12_init_139 h (fun u51 h => ?_)
  refine v_aload_n C 0 dX12_init_142 rfl rfl ?_
  refine v_bipush C (32 : Int32) dX12_init_143 (by decide) ?_
  refine v_newaP C (atype := .int) 20 32 rfl tw89 (Or.inr ⟨by decide, by decide, rfl⟩) (by decide) (fun t h cA hc => by obtain ⟨_, _, rfl⟩ := h; exact hc) (by decide) (by decide) (Nat.le_of_ble_eq_true rfl) (Nat.le_of_ble_eq_true rfl) (Nat.le_of_ble_eq_true rfl) dX12_init_145 h (fun b52 u53 h => ?_)
  refine v_putR C fdX12_64 (fun _ => rfl) (fun _ => rfl) (fun _ => hin) dX12_init_147 h (fun u54 h => ?_)
  refine v_aload_n C 0 dX12_init_150 rfl rfl ?_
  refine v_iconst C (4 : Int32) dX12_init_151 (by decide) ?_
  refine v_putI C fdX12_67 (fun h => by cases h) dX12_init_152 h (fun u55 h => ?_)
  refine v_aload_n C 0 dX12_init_155 rfl rfl ?_
  obtain ⟨u56, h1, h⟩ := ob_some h
  obtain ⟨hkd, h1⟩ := kd_some h1
  refine v_gov (rn_V C gcX12_71 (RX12, TX12, 33) rfl rfl (by decide) hkd (mX12_begin h1) ⟨rfl, rfl⟩ rfl ⟨Nat.le_of_ble_eq_true rfl, Nat.le_of_ble_eq_true rfl⟩ (rest := []) rfl (Nat.le_of_ble_eq_true rfl) ⟨Nat.le_of_ble_eq_true rfl, Nat.le_of_ble_eq_true rfl⟩ dX12_init_156) ?_
  exact v_vret C dX12_init_159 (Option.some.inj h)
set_option maxRecDepth 100000 in
set_option maxHeartbeats 4000000 in
theorem mX12_in {l : Launch} {D : UD} {bs : Nat} {x0 : Int32} {x1 : Int32} {x2 : Int32} {u0 : UH} {r : Int32} (h : fX12_in x0 x1 x2 u0 = some r) : Met l yX12_in (wz yX12_in cX12_in 3 (some .boolean)) rmX12_in (va_Pc [.int x0, .int x1, .int x2] (uIn D bs u0)) (uQi D bs u0 u0 r) 0 0 (uA bs u0) := by
  refine uMet (by decide) (Nat.le_of_ble_eq_true rfl) ?_
  intro X tw hX C hin
  have C : uCx X D bs tw cX12_in 3 RX12 (some .boolean) := C
  have hin : X.2.2.2.2.2.2.2.1.name = "in" := hin
  refine v_L [(0, .int x0), (1, .int x1), (2, .int x2)] rfl ?_
  unfold fX12_in at h
  refine v_iload_n C 0 dX12_in_0 rfl rfl ?_
  refine v_iload_n C 1 dX12_in_1 rfl rfl ?_
  refine v_icmplt C 14 dX12_in_2 (by decide) h (fun _ h => ?_) (fun _ h => ?_)
  · refine v_iconst C (0 : Int32) dX12_in_14 (by decide) ?_
    exact v_zret C dX12_in_15 rfl (Option.some.inj h) rfl
  · refine v_iload_n C 0 dX12_in_5 rfl rfl ?_
    refine v_iload_n C 2 dX12_in_6 rfl rfl ?_
    refine v_icmpgt C 14 dX12_in_7 (by decide) h (fun _ h => ?_) (fun _ h => ?_)
    · refine v_iconst C (0 : Int32) dX12_in_14 (by decide) ?_
      exact v_zret C dX12_in_15 rfl (Option.some.inj h) rfl
    · refine v_iconst C (1 : Int32) dX12_in_10 (by decide) ?_
      refine v_goto C 15 dX12_in_11 (by decide) ?_
      exact v_zret C dX12_in_15 rfl (Option.some.inj h) rfl
set_option maxRecDepth 100000 in
set_option maxHeartbeats 4000000 in
theorem mX12_lost {l : Launch} {D : UD} {bs : Nat}  {u0 : UH} {r : Int64} (h : fX12_lost  u0 = some r) : Met l yX12_lost (wz yX12_lost cX12_lost 0 (some .long)) rmX12_lost (va_Pc [] (uIn D bs u0)) (uQl D bs u0 u0 r) 0 0 (uA bs u0) := by
  refine uMet (by decide) (Nat.le_of_ble_eq_true rfl) ?_
  intro X tw hX C hin
  have C : uCx X D bs tw cX12_lost 0 RX12 (some .long) := C
  have hin : X.2.2.2.2.2.2.2.1.name = "lost" := hin
  refine v_L [] rfl ?_
  unfold fX12_lost at h
  refine v_ldc2 C (-9223372036854775808 : Int64) tw1144 dX12_lost_0 ?_
  exact v_lret C dX12_lost_3 rfl (Option.some.inj h)
set_option maxRecDepth 100000 in
set_option maxHeartbeats 4000000 in
theorem mX12_reset {l : Launch} {D : UD} {bs : Nat} {a0 : Nat} {x1 : Int32} {u0 : UH} {r : Int32} {v : UH} (h : fX12_reset a0 x1 u0 = some (r, v)) : Met l yX12_reset (wz yX12_reset cX12_reset 3 (some .int)) rmX12_reset (va_Pc [.ref (bs + a0), .int x1] (uIn D bs u0)) (uQi D bs u0 v r) 0 0 (uA bs u0) := by
  refine uMet (by decide) (Nat.le_of_ble_eq_true rfl) ?_
  intro X tw hX C hin
  have C : uCx X D bs tw cX12_reset 3 RX12 (some .int) := C
  have hin : X.2.2.2.2.2.2.2.1.name = "reset" := hin
  refine v_L [(0, .ref (bs + a0)), (1, .int x1)] rfl ?_
  unfold fX12_reset at h
  refine v_iload_n C 1 dX12_reset_0 rfl rfl ?_
  refine v_iconst C (1 : Int32) dX12_reset_1 (by decide) ?_
  refine v_iconst C (5 : Int32) dX12_reset_2 (by decide) ?_
  obtain ⟨y1, h1, h⟩ := ob_some h
  refine v_goi (rn_S C gcX12_94 (mX12_in h1) ⟨rfl, rfl⟩ rfl ⟨Nat.le_of_ble_eq_true rfl, Nat.le_of_ble_eq_true rfl⟩ (rest := []) rfl (Nat.le_of_ble_eq_true rfl) ⟨Nat.le_of_ble_eq_true rfl, Nat.le_of_ble_eq_true rfl⟩ dX12_reset_3) ?_
  refine v_ifne C 12 dX12_reset_6 (by decide) h (fun _ h => ?_) (fun _ h => ?_)
  · refine v_aload_n C 0 dX12_reset_12 rfl rfl ?_
    refine v_getI C fdX12_67 dX12_reset_13 h (fun y2 h => ?_)
    refine v_istore_n C [(2, .int y2), (0, .ref (bs + a0)), (1, .int x1)] dX12_reset_16 rfl (by decide) rfl ?_
    refine v_aload_n C 1 dX12_reset_17 rfl rfl ?_
    refine v_iload_n C 2 dX12_reset_18 rfl rfl ?_
    refine v_putI C fdX12_67 (fun h => by cases h) dX12_reset_19 h (fun u3 h => ?_)
    refine v_aload_n C 1 dX12_reset_22 rfl rfl ?_
    obtain ⟨u4, h1, h⟩ := ob_some h
    obtain ⟨hkd, h1⟩ := kd_some h1
    refine v_gov (rn_V C gcX12_71 (RX12, TX12, 33) rfl rfl (by decide) hkd (mX12_begin h1) ⟨rfl, rfl⟩ rfl ⟨Nat.le_of_ble_eq_true rfl, Nat.le_of_ble_eq_true rfl⟩ (rest := []) rfl (Nat.le_of_ble_eq_true rfl) ⟨Nat.le_of_ble_eq_true rfl, Nat.le_of_ble_eq_true rfl⟩ dX12_reset_23) ?_
    refine v_iload_n C 0 dX12_reset_26 rfl rfl ?_
    exact v_iret C dX12_reset_27 (Prod.mk.inj (Option.some.inj h)).2 (Prod.mk.inj (Option.some.inj h)).1
  · refine v_bipush C (-3 : Int32) dX12_reset_9 (by decide) ?_
    exact v_iret C dX12_reset_11 (Prod.mk.inj (Option.some.inj h)).2 (Prod.mk.inj (Option.some.inj h)).1
set_option maxRecDepth 100000 in
set_option maxHeartbeats 4000000 in
theorem mX12_headers {l : Launch} {D : UD} {bs : Nat} {a0 : Nat} {u0 : UH} {r : Int32} (h : fX12_headers a0 u0 = some r) : Met l yX12_headers (wz yX12_headers cX12_headers 1 (some .int)) rmX12_headers (va_Pc [.ref (bs + a0)] (uIn D bs u0)) (uQi D bs u0 u0 r) 0 0 (uA bs u0) := by
  refine uMet (by decide) (Nat.le_of_ble_eq_true rfl) ?_
  intro X tw hX C hin
  have C : uCx X D bs tw cX12_headers 1 RX12 (some .int) := C
  have hin : X.2.2.2.2.2.2.2.1.name = "headers" := hin
  refine v_L [(0, .ref (bs + a0))] rfl ?_
  unfold fX12_headers at h
  refine v_iconst C (1 : Int32) dX12_headers_0 (by decide) ?_
  refine v_aload_n C 0 dX12_headers_1 rfl rfl ?_
  refine v_getI C fdX12_67 dX12_headers_2 h (fun y1 h => ?_)
  refine v_ishl C dX12_headers_5 ?_
  exact v_iret C dX12_headers_6 rfl (Option.some.inj h)
set_option maxRecDepth 100000 in
set_option maxHeartbeats 4000000 in
theorem mX12_noHeader {l : Launch} {D : UD} {bs : Nat} {a0 : Nat} {x1 : Int32} {u0 : UH} {r : Int32} (h : fX12_noHeader a0 x1 u0 = some r) : Met l yX12_noHeader (wz yX12_noHeader cX12_noHeader 2 (some .boolean)) rmX12_noHeader (va_Pc [.ref (bs + a0), .int x1] (uIn D bs u0)) (uQi D bs u0 u0 r) 0 0 (uA bs u0) := by
  refine uMet (by decide) (Nat.le_of_ble_eq_true rfl) ?_
  intro X tw hX C hin
  have C : uCx X D bs tw cX12_noHeader 2 RX12 (some .boolean) := C
  have hin : X.2.2.2.2.2.2.2.1.name = "noHeader" := hin
  refine v_L [(0, .ref (bs + a0)), (1, .int x1)] rfl ?_
  unfold fX12_noHeader at h
  refine v_iload_n C 1 dX12_noHeader_0 rfl rfl ?_
  refine v_iconst C (0 : Int32) dX12_noHeader_1 (by decide) ?_
  refine v_aload_n C 0 dX12_noHeader_2 rfl rfl ?_
  obtain ⟨y1, h1, h⟩ := ob_some h
  obtain ⟨hkd, h1⟩ := kd_some h1
  refine v_goi (rn_V C gcX12_98 (RX12, TX12, 33) rfl rfl (by decide) hkd (mX12_headers h1) ⟨rfl, rfl⟩ rfl ⟨Nat.le_of_ble_eq_true rfl, Nat.le_of_ble_eq_true rfl⟩ (rest := [.int (0 : Int32), .int x1]) rfl (Nat.le_of_ble_eq_true rfl) ⟨Nat.le_of_ble_eq_true rfl, Nat.le_of_ble_eq_true rfl⟩ dX12_noHeader_3) ?_
  refine v_iconst C (1 : Int32) dX12_noHeader_6 (by decide) ?_
  refine v_isub C dX12_noHeader_7 ?_
  obtain ⟨y2, h1, h⟩ := ob_some h
  refine v_goi (rn_S C gcX12_94 (mX12_in h1) ⟨rfl, rfl⟩ rfl ⟨Nat.le_of_ble_eq_true rfl, Nat.le_of_ble_eq_true rfl⟩ (rest := []) rfl (Nat.le_of_ble_eq_true rfl) ⟨Nat.le_of_ble_eq_true rfl, Nat.le_of_ble_eq_true rfl⟩ dX12_noHeader_8) ?_
  refine v_ifne C 18 dX12_noHeader_11 (by decide) h (fun _ h => ?_) (fun _ h => ?_)
  · refine v_iconst C (0 : Int32) dX12_noHeader_18 (by decide) ?_
    exact v_zret C dX12_noHeader_19 rfl (Option.some.inj h) rfl
  · refine v_iconst C (1 : Int32) dX12_noHeader_14 (by decide) ?_
    refine v_goto C 19 dX12_noHeader_15 (by decide) ?_
    exact v_zret C dX12_noHeader_19 rfl (Option.some.inj h) rfl
set_option maxRecDepth 100000 in
set_option maxHeartbeats 4000000 in
theorem mX12_noBox {l : Launch} {D : UD} {bs : Nat} {x0 : Int32} {u0 : UH} {r : Int32} (h : fX12_noBox x0 u0 = some r) : Met l yX12_noBox (wz yX12_noBox cX12_noBox 1 (some .boolean)) rmX12_noBox (va_Pc [.int x0] (uIn D bs u0)) (uQi D bs u0 u0 r) 0 0 (uA bs u0) := by
  refine uMet (by decide) (Nat.le_of_ble_eq_true rfl) ?_
  intro X tw hX C hin
  have C : uCx X D bs tw cX12_noBox 1 RX12 (some .boolean) := C
  have hin : X.2.2.2.2.2.2.2.1.name = "noBox" := hin
  refine v_L [(0, .int x0)] rfl ?_
  unfold fX12_noBox at h
  refine v_iload_n C 0 dX12_noBox_0 rfl rfl ?_
  refine v_iconst C (0 : Int32) dX12_noBox_1 (by decide) ?_
  refine v_iconst C (5 : Int32) dX12_noBox_2 (by decide) ?_
  obtain ⟨y1, h1, h⟩ := ob_some h
  refine v_goi (rn_S C gcX12_94 (mX12_in h1) ⟨rfl, rfl⟩ rfl ⟨Nat.le_of_ble_eq_true rfl, Nat.le_of_ble_eq_true rfl⟩ (rest := []) rfl (Nat.le_of_ble_eq_true rfl) ⟨Nat.le_of_ble_eq_true rfl, Nat.le_of_ble_eq_true rfl⟩ dX12_noBox_3) ?_
  refine v_ifne C 13 dX12_noBox_6 (by decide) h (fun _ h => ?_) (fun _ h => ?_)
  · refine v_iconst C (0 : Int32) dX12_noBox_13 (by decide) ?_
    exact v_zret C dX12_noBox_14 rfl (Option.some.inj h) rfl
  · refine v_iconst C (1 : Int32) dX12_noBox_9 (by decide) ?_
    refine v_goto C 14 dX12_noBox_10 (by decide) ?_
    exact v_zret C dX12_noBox_14 rfl (Option.some.inj h) rfl
set_option maxRecDepth 100000 in
set_option maxHeartbeats 4000000 in
theorem mX12_noPlace {l : Launch} {D : UD} {bs : Nat} {x0 : Int32} {x1 : Int32} {u0 : UH} {r : Int32} (h : fX12_noPlace x0 x1 u0 = some r) : Met l yX12_noPlace (wz yX12_noPlace cX12_noPlace 2 (some .boolean)) rmX12_noPlace (va_Pc [.int x0, .int x1] (uIn D bs u0)) (uQi D bs u0 u0 r) 0 0 (uA bs u0) := by
  refine uMet (by decide) (Nat.le_of_ble_eq_true rfl) ?_
  intro X tw hX C hin
  have C : uCx X D bs tw cX12_noPlace 2 RX12 (some .boolean) := C
  have hin : X.2.2.2.2.2.2.2.1.name = "noPlace" := hin
  refine v_L [(0, .int x0), (1, .int x1)] rfl ?_
  unfold fX12_noPlace at h
  refine v_iload_n C 0 dX12_noPlace_0 rfl rfl ?_
  obtain ⟨y1, h1, h⟩ := ob_some h
  refine v_goi (rn_S C gcX12_102 (mX12_noBox h1) ⟨rfl, rfl⟩ rfl ⟨Nat.le_of_ble_eq_true rfl, Nat.le_of_ble_eq_true rfl⟩ (rest := []) rfl (Nat.le_of_ble_eq_true rfl) ⟨Nat.le_of_ble_eq_true rfl, Nat.le_of_ble_eq_true rfl⟩ dX12_noPlace_1) ?_
  refine v_ifne C 16 dX12_noPlace_4 (by decide) h (fun _ h => ?_) (fun _ h => ?_)
  · refine v_iconst C (1 : Int32) dX12_noPlace_16 (by decide) ?_
    refine v_goto C 21 dX12_noPlace_17 (by decide) ?_
    exact v_zret C dX12_noPlace_21 rfl (Option.some.inj h) rfl
  · refine v_iload_n C 1 dX12_noPlace_7 rfl rfl ?_
    refine v_iconst C (0 : Int32) dX12_noPlace_8 (by decide) ?_
    refine v_iconst C (3 : Int32) dX12_noPlace_9 (by decide) ?_
    obtain ⟨y2, h1, h⟩ := ob_some h
    refine v_goi (rn_S C gcX12_94 (mX12_in h1) ⟨rfl, rfl⟩ rfl ⟨Nat.le_of_ble_eq_true rfl, Nat.le_of_ble_eq_true rfl⟩ (rest := []) rfl (Nat.le_of_ble_eq_true rfl) ⟨Nat.le_of_ble_eq_true rfl, Nat.le_of_ble_eq_true rfl⟩ dX12_noPlace_10) ?_
    refine v_ifne C 20 dX12_noPlace_13 (by decide) h (fun _ h => ?_) (fun _ h => ?_)
    · refine v_iconst C (0 : Int32) dX12_noPlace_20 (by decide) ?_
      exact v_zret C dX12_noPlace_21 rfl (Option.some.inj h) rfl
    · refine v_iconst C (1 : Int32) dX12_noPlace_16 (by decide) ?_
      refine v_goto C 21 dX12_noPlace_17 (by decide) ?_
      exact v_zret C dX12_noPlace_21 rfl (Option.some.inj h) rfl
set_option maxRecDepth 100000 in
set_option maxHeartbeats 4000000 in
theorem mX12_connect {l : Launch} {D : UD} {bs : Nat} {a0 : Nat} {x1 : Int32} {x2 : Int32} {x3 : Int32} {x4 : Int32} {u0 : UH} {r : Int32} {v : UH} (h : fX12_connect a0 x1 x2 x3 x4 u0 = some (r, v)) : Met l yX12_connect (wz yX12_connect cX12_connect 7 (some .int)) rmX12_connect (va_Pc [.ref (bs + a0), .int x1, .int x2, .int x3, .int x4] (uIn D bs u0)) (uQi D bs u0 v r) 0 0 (uA bs u0) := by
  refine uMet (by decide) (Nat.le_of_ble_eq_true rfl) ?_
  intro X tw hX C hin
  have C : uCx X D bs tw cX12_connect 7 RX12 (some .int) := C
  have hin : X.2.2.2.2.2.2.2.1.name = "connect" := hin
  refine v_L [(0, .ref (bs + a0)), (1, .int x1), (2, .int x2), (3, .int x3), (4, .int x4)] rfl ?_
  unfold fX12_connect at h
  refine v_iload_n C 1 dX12_connect_0 rfl rfl ?_
  refine v_iload_n C 2 dX12_connect_1 rfl rfl ?_
  obtain ⟨y1, h1, h⟩ := ob_some h
  refine v_goi (rn_S C gcX12_106 (mX12_noPlace h1) ⟨rfl, rfl⟩ rfl ⟨Nat.le_of_ble_eq_true rfl, Nat.le_of_ble_eq_true rfl⟩ (rest := []) rfl (Nat.le_of_ble_eq_true rfl) ⟨Nat.le_of_ble_eq_true rfl, Nat.le_of_ble_eq_true rfl⟩ dX12_connect_2) ?_
  refine v_ifne C 17 dX12_connect_5 (by decide) h (fun _ h => ?_) (fun _ h => ?_)
  · refine v_iconst C (-1 : Int32) dX12_connect_17 (by decide) ?_
    exact v_iret C dX12_connect_18 (Prod.mk.inj (Option.some.inj h)).2 (Prod.mk.inj (Option.some.inj h)).1
  · refine v_iload_n C 3 dX12_connect_8 rfl rfl ?_
    refine v_iload C 4 dX12_connect_9 rfl ?_
    obtain ⟨y2, h1, h⟩ := ob_some h
    refine v_goi (rn_S C gcX12_106 (mX12_noPlace h1) ⟨rfl, rfl⟩ rfl ⟨Nat.le_of_ble_eq_true rfl, Nat.le_of_ble_eq_true rfl⟩ (rest := []) rfl (Nat.le_of_ble_eq_true rfl) ⟨Nat.le_of_ble_eq_true rfl, Nat.le_of_ble_eq_true rfl⟩ dX12_connect_11) ?_
    refine v_ifeq C 19 dX12_connect_14 (by decide) h (fun _ h => ?_) (fun _ h => ?_)
    · refine v_iconst C (4 : Int32) dX12_connect_19 (by decide) ?_
      refine v_iload_n C 1 dX12_connect_20 rfl rfl ?_
      refine v_imul C dX12_connect_21 ?_
      refine v_iload_n C 2 dX12_connect_22 rfl rfl ?_
      refine v_iadd C dX12_connect_23 ?_
      refine v_lti h (fun y3 h => ?_)
      refine v_istore C [(5, .int y3), (0, .ref (bs + a0)), (1, .int x1), (2, .int x2), (3, .int x3), (4, .int x4)] dX12_connect_24 (by decide) rfl ?_
      refine v_iconst C (4 : Int32) dX12_connect_26 (by decide) ?_
      refine v_iload_n C 4 dX12_connect_27 rfl rfl ?_
      refine v_imul C dX12_connect_28 ?_
      refine v_iload C 5 dX12_connect_29 rfl ?_
      refine v_iadd C dX12_connect_31 ?_
      refine v_lti h (fun y4 h => ?_)
      refine v_istore C [(6, .int y4), (5, .int y3), (0, .ref (bs + a0)), (1, .int x1), (2, .int x2), (3, .int x3), (4, .int x4)] dX12_connect_32 (by decide) rfl ?_
      refine v_iload C 1 dX12_connect_34 rfl ?_
      refine v_iload C 0 dX12_connect_36 rfl ?_
      refine v_icmpeq C 61 dX12_connect_38 (by decide) h (fun _ h => ?_) (fun _ h => ?_)
      · refine v_bipush C (-4 : Int32) dX12_connect_61 (by decide) ?_
        exact v_iret C dX12_connect_63 (Prod.mk.inj (Option.some.inj h)).2 (Prod.mk.inj (Option.some.inj h)).1
      · refine v_aload_n C 2 dX12_connect_41 rfl rfl ?_
        refine v_getR C fdX12_7 dX12_connect_42 h (fun b5 h => ?_)
        refine v_iload C 1 dX12_connect_45 rfl ?_
        refine v_ldI C dX12_connect_47 h (fun y6 h => ?_)
        refine v_ifge C 61 dX12_connect_48 (by decide) h (fun _ h => ?_) (fun _ h => ?_)
        · refine v_bipush C (-4 : Int32) dX12_connect_61 (by decide) ?_
          exact v_iret C dX12_connect_63 (Prod.mk.inj (Option.some.inj h)).2 (Prod.mk.inj (Option.some.inj h)).1
        · refine v_aload_n C 2 dX12_connect_51 rfl rfl ?_
          refine v_getR C fdX12_7 dX12_connect_52 h (fun b7 h => ?_)
          refine v_iload C 0 dX12_connect_55 rfl ?_
          refine v_ldI C dX12_connect_57 h (fun y8 h => ?_)
          refine v_iflt C 64 dX12_connect_58 (by decide) h (fun _ h => ?_) (fun _ h => ?_)
          · refine v_aload_n C 2 dX12_connect_64 rfl rfl ?_
            refine v_getR C fdX12_7 dX12_connect_65 h (fun b9 h => ?_)
            refine v_iload C 1 dX12_connect_68 rfl ?_
            refine v_iload C 0 dX12_connect_70 rfl ?_
            refine v_stI C dX12_connect_72 h (fun u10 h => ?_)
            refine v_aload_n C 2 dX12_connect_73 rfl rfl ?_
            refine v_getR C fdX12_7 dX12_connect_74 h (fun b11 h => ?_)
            refine v_iload C 0 dX12_connect_77 rfl ?_
            refine v_iload C 1 dX12_connect_79 rfl ?_
            refine v_stI C dX12_connect_81 h (fun u12 h => ?_)
            refine v_aload_n C 2 dX12_connect_82 rfl rfl ?_
            refine v_dup C dX12_connect_83 rfl ?_
            refine v_getI C fdX12_76 dX12_connect_84 h (fun y13 h => ?_)
            refine v_iconst C (1 : Int32) dX12_connect_87 (by decide) ?_
            refine v_iadd C dX12_connect_88 ?_
            refine v_putI C fdX12_76 (fun h => by cases h) dX12_connect_89 h (fun u14 h => ?_)
            refine v_aload_n C 2 dX12_connect_92 rfl rfl ?_
            refine v_getI C fdX12_76 dX12_connect_93 h (fun y15 h => ?_)
            exact v_iret C dX12_connect_96 (Prod.mk.inj (Option.some.inj h)).2 (Prod.mk.inj (Option.some.inj h)).1
          · refine v_bipush C (-4 : Int32) dX12_connect_61 (by decide) ?_
            exact v_iret C dX12_connect_63 (Prod.mk.inj (Option.some.inj h)).2 (Prod.mk.inj (Option.some.inj h)).1
    · refine v_iconst C (-1 : Int32) dX12_connect_17 (by decide) ?_
      exact v_iret C dX12_connect_18 (Prod.mk.inj (Option.some.inj h)).2 (Prod.mk.inj (Option.some.inj h)).1
set_option maxRecDepth 100000 in
set_option maxHeartbeats 4000000 in
theorem mX12_disconnect {l : Launch} {D : UD} {bs : Nat} {a0 : Nat} {x1 : Int32} {x2 : Int32} {u0 : UH} {r : Int32} {v : UH} (h : fX12_disconnect a0 x1 x2 u0 = some (r, v)) : Met l yX12_disconnect (wz yX12_disconnect cX12_disconnect 4 (some .int)) rmX12_disconnect (va_Pc [.ref (bs + a0), .int x1, .int x2] (uIn D bs u0)) (uQi D bs u0 v r) 0 0 (uA bs u0) := by
  refine uMet (by decide) (Nat.le_of_ble_eq_true rfl) ?_
  intro X tw hX C hin
  have C : uCx X D bs tw cX12_disconnect 4 RX12 (some .int) := C
  have hin : X.2.2.2.2.2.2.2.1.name = "disconnect" := hin
  refine v_L [(0, .ref (bs + a0)), (1, .int x1), (2, .int x2)] rfl ?_
  unfold fX12_disconnect at h
  refine v_iload_n C 1 dX12_disconnect_0 rfl rfl ?_
  refine v_iload_n C 2 dX12_disconnect_1 rfl rfl ?_
  obtain ⟨y1, h1, h⟩ := ob_some h
  refine v_goi (rn_S C gcX12_106 (mX12_noPlace h1) ⟨rfl, rfl⟩ rfl ⟨Nat.le_of_ble_eq_true rfl, Nat.le_of_ble_eq_true rfl⟩ (rest := []) rfl (Nat.le_of_ble_eq_true rfl) ⟨Nat.le_of_ble_eq_true rfl, Nat.le_of_ble_eq_true rfl⟩ dX12_disconnect_2) ?_
  refine v_ifeq C 10 dX12_disconnect_5 (by decide) h (fun _ h => ?_) (fun _ h => ?_)
  · refine v_iconst C (4 : Int32) dX12_disconnect_10 (by decide) ?_
    refine v_iload_n C 1 dX12_disconnect_11 rfl rfl ?_
    refine v_imul C dX12_disconnect_12 ?_
    refine v_iload_n C 2 dX12_disconnect_13 rfl rfl ?_
    refine v_iadd C dX12_disconnect_14 ?_
    refine v_lti h (fun y2 h => ?_)
    refine v_istore_n C [(3, .int y2), (0, .ref (bs + a0)), (1, .int x1), (2, .int x2)] dX12_disconnect_15 rfl (by decide) rfl ?_
    refine v_aload_n C 1 dX12_disconnect_16 rfl rfl ?_
    refine v_getR C fdX12_7 dX12_disconnect_17 h (fun b3 h => ?_)
    refine v_iload_n C 0 dX12_disconnect_20 rfl rfl ?_
    refine v_ldI C dX12_disconnect_21 h (fun y4 h => ?_)
    refine v_ifge C 28 dX12_disconnect_22 (by decide) h (fun _ h => ?_) (fun _ h => ?_)
    · refine v_aload_n C 1 dX12_disconnect_28 rfl rfl ?_
      refine v_getR C fdX12_7 dX12_disconnect_29 h (fun b5 h => ?_)
      refine v_aload_n C 1 dX12_disconnect_32 rfl rfl ?_
      refine v_getR C fdX12_7 dX12_disconnect_33 h (fun b6 h => ?_)
      refine v_iload_n C 0 dX12_disconnect_36 rfl rfl ?_
      refine v_ldI C dX12_disconnect_37 h (fun y7 h => ?_)
      refine v_iconst C (-1 : Int32) dX12_disconnect_38 (by decide) ?_
      refine v_stI C dX12_disconnect_39 h (fun u8 h => ?_)
      refine v_aload_n C 1 dX12_disconnect_40 rfl rfl ?_
      refine v_getR C fdX12_7 dX12_disconnect_41 h (fun b9 h => ?_)
      refine v_iload_n C 0 dX12_disconnect_44 rfl rfl ?_
      refine v_iconst C (-1 : Int32) dX12_disconnect_45 (by decide) ?_
      refine v_stI C dX12_disconnect_46 h (fun u10 h => ?_)
      refine v_aload_n C 1 dX12_disconnect_47 rfl rfl ?_
      refine v_dup C dX12_disconnect_48 rfl ?_
      refine v_getI C fdX12_76 dX12_disconnect_49 h (fun y11 h => ?_)
      refine v_iconst C (1 : Int32) dX12_disconnect_52 (by decide) ?_
      refine v_isub C dX12_disconnect_53 ?_
      refine v_putI C fdX12_76 (fun h => by cases h) dX12_disconnect_54 h (fun u12 h => ?_)
      refine v_aload_n C 1 dX12_disconnect_57 rfl rfl ?_
      refine v_getI C fdX12_76 dX12_disconnect_58 h (fun y13 h => ?_)
      exact v_iret C dX12_disconnect_61 (Prod.mk.inj (Option.some.inj h)).2 (Prod.mk.inj (Option.some.inj h)).1
    · refine v_bipush C (-6 : Int32) dX12_disconnect_25 (by decide) ?_
      exact v_iret C dX12_disconnect_27 (Prod.mk.inj (Option.some.inj h)).2 (Prod.mk.inj (Option.some.inj h)).1
  · refine v_iconst C (-1 : Int32) dX12_disconnect_8 (by decide) ?_
    exact v_iret C dX12_disconnect_9 (Prod.mk.inj (Option.some.inj h)).2 (Prod.mk.inj (Option.some.inj h)).1
set_option maxRecDepth 100000 in
set_option maxHeartbeats 4000000 in
theorem mX12_other {l : Launch} {D : UD} {bs : Nat} {a0 : Nat} {x1 : Int32} {x2 : Int32} {u0 : UH} {r : Int32} (h : fX12_other a0 x1 x2 u0 = some r) : Met l yX12_other (wz yX12_other cX12_other 4 (some .int)) rmX12_other (va_Pc [.ref (bs + a0), .int x1, .int x2] (uIn D bs u0)) (uQi D bs u0 u0 r) 0 0 (uA bs u0) := by
  refine uMet (by decide) (Nat.le_of_ble_eq_true rfl) ?_
  intro X tw hX C hin
  have C : uCx X D bs tw cX12_other 4 RX12 (some .int) := C
  have hin : X.2.2.2.2.2.2.2.1.name = "other" := hin
  refine v_L [(0, .ref (bs + a0)), (1, .int x1), (2, .int x2)] rfl ?_
  unfold fX12_other at h
  refine v_iload_n C 1 dX12_other_0 rfl rfl ?_
  refine v_iload_n C 2 dX12_other_1 rfl rfl ?_
  obtain ⟨y1, h1, h⟩ := ob_some h
  refine v_goi (rn_S C gcX12_106 (mX12_noPlace h1) ⟨rfl, rfl⟩ rfl ⟨Nat.le_of_ble_eq_true rfl, Nat.le_of_ble_eq_true rfl⟩ (rest := []) rfl (Nat.le_of_ble_eq_true rfl) ⟨Nat.le_of_ble_eq_true rfl, Nat.le_of_ble_eq_true rfl⟩ dX12_other_2) ?_
  refine v_ifeq C 10 dX12_other_5 (by decide) h (fun _ h => ?_) (fun _ h => ?_)
  · refine v_aload_n C 0 dX12_other_10 rfl rfl ?_
    refine v_getR C fdX12_7 dX12_other_11 h (fun b2 h => ?_)
    refine v_iconst C (4 : Int32) dX12_other_14 (by decide) ?_
    refine v_iload_n C 1 dX12_other_15 rfl rfl ?_
    refine v_imul C dX12_other_16 ?_
    refine v_iload_n C 2 dX12_other_17 rfl rfl ?_
    refine v_iadd C dX12_other_18 ?_
    refine v_ldI C dX12_other_19 h (fun y3 h => ?_)
    refine v_istore_n C [(3, .int y3), (0, .ref (bs + a0)), (1, .int x1), (2, .int x2)] dX12_other_20 rfl (by decide) rfl ?_
    refine v_iload_n C 0 dX12_other_21 rfl rfl ?_
    refine v_ifge C 30 dX12_other_22 (by decide) h (fun _ h => ?_) (fun _ h => ?_)
    · refine v_bipush C (10 : Int32) dX12_other_30 (by decide) ?_
      refine v_iload_n C 0 dX12_other_32 rfl rfl ?_
      refine v_iconst C (4 : Int32) dX12_other_33 (by decide) ?_
      refine v_idiv C dX12_other_34 (by decide) ?_
      refine v_imul C dX12_other_35 ?_
      refine v_iload_n C 0 dX12_other_36 rfl rfl ?_
      refine v_iconst C (4 : Int32) dX12_other_37 (by decide) ?_
      refine v_irem C dX12_other_38 (by decide) ?_
      refine v_iadd C dX12_other_39 ?_
      exact v_iret C dX12_other_40 rfl (Option.some.inj h)
    · refine v_bipush C (-6 : Int32) dX12_other_25 (by decide) ?_
      refine v_goto C 40 dX12_other_27 (by decide) ?_
      exact v_iret C dX12_other_40 rfl (Option.some.inj h)
  · refine v_iconst C (-1 : Int32) dX12_other_8 (by decide) ?_
    exact v_iret C dX12_other_9 rfl (Option.some.inj h)
set_option maxRecDepth 100000 in
set_option maxHeartbeats 4000000 in
theorem mX12_many {l : Launch} {D : UD} {bs : Nat} {a0 : Nat} {x1 : Int32} {u0 : UH} {r : Int32} (h : fX12_many a0 x1 u0 = some r) : Met l yX12_many (wz yX12_many cX12_many 2 (some .int)) rmX12_many (va_Pc [.ref (bs + a0), .int x1] (uIn D bs u0)) (uQi D bs u0 u0 r) 0 0 (uA bs u0) := by
  refine uMet (by decide) (Nat.le_of_ble_eq_true rfl) ?_
  intro X tw hX C hin
  have C : uCx X D bs tw cX12_many 2 RX12 (some .int) := C
  have hin : X.2.2.2.2.2.2.2.1.name = "many" := hin
  refine v_L [(0, .ref (bs + a0)), (1, .int x1)] rfl ?_
  unfold fX12_many at h
  refine v_aload_n C 0 dX12_many_0 rfl rfl ?_
  refine v_getR C fdX12_13 dX12_many_1 h (fun b1 h => ?_)
  refine v_sipush C (252 : Int32) dX12_many_4 (by decide) ?_
  refine v_iload_n C 1 dX12_many_7 rfl rfl ?_
  refine v_iadd C dX12_many_8 ?_
  refine v_ldI C dX12_many_9 h (fun y2 h => ?_)
  exact v_iret C dX12_many_10 rfl (Option.some.inj h)
set_option maxRecDepth 100000 in
set_option maxHeartbeats 4000000 in
theorem mX12_of {l : Launch} {D : UD} {bs : Nat} {a0 : Nat} {x1 : Int32} {x2 : Int32} {x3 : Int32} {u0 : UH} {r : Int32} (h : fX12_of a0 x1 x2 x3 u0 = some r) : Met l yX12_of (wz yX12_of cX12_of 4 (some .int)) rmX12_of (va_Pc [.ref (bs + a0), .int x1, .int x2, .int x3] (uIn D bs u0)) (uQi D bs u0 u0 r) 0 0 (uA bs u0) := by
  refine uMet (by decide) (Nat.le_of_ble_eq_true rfl) ?_
  intro X tw hX C hin
  have C : uCx X D bs tw cX12_of 4 RX12 (some .int) := C
  have hin : X.2.2.2.2.2.2.2.1.name = "of" := hin
  refine v_L [(0, .ref (bs + a0)), (1, .int x1), (2, .int x2), (3, .int x3)] rfl ?_
  unfold fX12_of at h
  refine v_aload_n C 0 dX12_of_0 rfl rfl ?_
  refine v_getR C fdX12_13 dX12_of_1 h (fun b1 h => ?_)
  refine v_bipush C (7 : Int32) dX12_of_4 (by decide) ?_
  refine v_bipush C (6 : Int32) dX12_of_6 (by decide) ?_
  refine v_iload_n C 1 dX12_of_8 rfl rfl ?_
  refine v_imul C dX12_of_9 ?_
  refine v_iload_n C 2 dX12_of_10 rfl rfl ?_
  refine v_iadd C dX12_of_11 ?_
  refine v_imul C dX12_of_12 ?_
  refine v_iload_n C 3 dX12_of_13 rfl rfl ?_
  refine v_iadd C dX12_of_14 ?_
  refine v_ldI C dX12_of_15 h (fun y2 h => ?_)
  exact v_iret C dX12_of_16 rfl (Option.some.inj h)
set_option maxRecDepth 100000 in
set_option maxHeartbeats 4000000 in
theorem mX12_put {l : Launch} {D : UD} {bs : Nat} {a0 : Nat} {x1 : Int32} {x2 : Int32} {x3 : Int32} {x4 : Int32} {u0 : UH} {v : UH} (h : fX12_put a0 x1 x2 x3 x4 u0 = some v) : Met l yX12_put (wz yX12_put cX12_put 5 none) rmX12_put (va_Pc [.ref (bs + a0), .int x1, .int x2, .int x3, .int x4] (uIn D bs u0)) (uQv D bs u0 v) 0 0 (uA bs u0) := by
  refine uMet (by decide) (Nat.le_of_ble_eq_true rfl) ?_
  intro X tw hX C hin
  have C : uCx X D bs tw cX12_put 5 RX12 none := C
  have hin : X.2.2.2.2.2.2.2.1.name = "put" := hin
  refine v_L [(0, .ref (bs + a0)), (1, .int x1), (2, .int x2), (3, .int x3), (4, .int x4)] rfl ?_
  unfold fX12_put at h
  refine v_aload_n C 0 dX12_put_0 rfl rfl ?_
  refine v_getR C fdX12_13 dX12_put_1 h (fun b1 h => ?_)
  refine v_bipush C (7 : Int32) dX12_put_4 (by decide) ?_
  refine v_bipush C (6 : Int32) dX12_put_6 (by decide) ?_
  refine v_iload_n C 1 dX12_put_8 rfl rfl ?_
  refine v_imul C dX12_put_9 ?_
  refine v_iload_n C 2 dX12_put_10 rfl rfl ?_
  refine v_iadd C dX12_put_11 ?_
  refine v_imul C dX12_put_12 ?_
  refine v_iload_n C 3 dX12_put_13 rfl rfl ?_
  refine v_iadd C dX12_put_14 ?_
  refine v_iload C 4 dX12_put_15 rfl ?_
  refine v_stI C dX12_put_17 h (fun u2 h => ?_)
  exact v_vret C dX12_put_18 (Option.some.inj h)
set_option maxRecDepth 100000 in
set_option maxHeartbeats 4000000 in
theorem mX12_noRule {l : Launch} {D : UD} {bs : Nat} {a0 : Nat} {x1 : Int32} {x2 : Int32} {u0 : UH} {r : Int32} (h : fX12_noRule a0 x1 x2 u0 = some r) : Met l yX12_noRule (wz yX12_noRule cX12_noRule 3 (some .boolean)) rmX12_noRule (va_Pc [.ref (bs + a0), .int x1, .int x2] (uIn D bs u0)) (uQi D bs u0 u0 r) 0 0 (uA bs u0) := by
  refine uMet (by decide) (Nat.le_of_ble_eq_true rfl) ?_
  intro X tw hX C hin
  have C : uCx X D bs tw cX12_noRule 3 RX12 (some .boolean) := C
  have hin : X.2.2.2.2.2.2.2.1.name = "noRule" := hin
  refine v_L [(0, .ref (bs + a0)), (1, .int x1), (2, .int x2)] rfl ?_
  unfold fX12_noRule at h
  refine v_iload_n C 2 dX12_noRule_0 rfl rfl ?_
  refine v_iconst C (0 : Int32) dX12_noRule_1 (by decide) ?_
  refine v_aload_n C 0 dX12_noRule_2 rfl rfl ?_
  refine v_iload_n C 1 dX12_noRule_3 rfl rfl ?_
  obtain ⟨y1, h1, h⟩ := ob_some h
  obtain ⟨hkd, h1⟩ := kd_some h1
  refine v_goi (rn_V C gcX12_110 (RX12, TX12, 33) rfl rfl (by decide) hkd (mX12_many h1) ⟨rfl, rfl⟩ rfl ⟨Nat.le_of_ble_eq_true rfl, Nat.le_of_ble_eq_true rfl⟩ (rest := [.int (0 : Int32), .int x2]) rfl (Nat.le_of_ble_eq_true rfl) ⟨Nat.le_of_ble_eq_true rfl, Nat.le_of_ble_eq_true rfl⟩ dX12_noRule_4) ?_
  refine v_iconst C (1 : Int32) dX12_noRule_7 (by decide) ?_
  refine v_isub C dX12_noRule_8 ?_
  obtain ⟨y2, h1, h⟩ := ob_some h
  refine v_goi (rn_S C gcX12_94 (mX12_in h1) ⟨rfl, rfl⟩ rfl ⟨Nat.le_of_ble_eq_true rfl, Nat.le_of_ble_eq_true rfl⟩ (rest := []) rfl (Nat.le_of_ble_eq_true rfl) ⟨Nat.le_of_ble_eq_true rfl, Nat.le_of_ble_eq_true rfl⟩ dX12_noRule_9) ?_
  refine v_ifne C 19 dX12_noRule_12 (by decide) h (fun _ h => ?_) (fun _ h => ?_)
  · refine v_iconst C (0 : Int32) dX12_noRule_19 (by decide) ?_
    exact v_zret C dX12_noRule_20 rfl (Option.some.inj h) rfl
  · refine v_iconst C (1 : Int32) dX12_noRule_15 (by decide) ?_
    refine v_goto C 20 dX12_noRule_16 (by decide) ?_
    exact v_zret C dX12_noRule_20 rfl (Option.some.inj h) rfl
set_option maxRecDepth 100000 in
set_option maxHeartbeats 4000000 in
theorem wX12_keep_B57 {X : UX} {D : UD} {bs tw : Nat} {u0 : UH} {v : UH} (C : uCx X D bs tw cX12_keep 2 RX12 none) (hin : X.2.2.2.2.2.2.2.1.name = "keep") {a0 : Nat}  {G : UH → Prop} {k : Int32 → UH → Option UH} (hk : ∀ (x1 : Int32) (u' : UH) e, k x1 u' = some e → G e → VV X D bs u0 rmX12_keep 2 0 0 (MQ X.2.2.2.2.2.2.1 (uQv D bs u0 v) X.2.2.2.2.2.1 X.2.2.2.1 0 0 (uA bs u0)) u' 57 [(0, .ref (bs + a0)), (1, .int x1)] []) (hex : ∀  (u' : UH), G u' → VV X D bs u0 rmX12_keep 2 0 0 (MQ X.2.2.2.2.2.2.1 (uQv D bs u0 v) X.2.2.2.2.2.1 X.2.2.2.1 0 0 (uA bs u0)) u' 91 [(0, .ref (bs + a0))] [])  : ∀ (x1 : Int32) (u : UH) e, fX12_keep_B57 a0  k x1 u = some e → G e → VV X D bs u0 rmX12_keep 2 0 0 (MQ X.2.2.2.2.2.2.1 (uQv D bs u0 v) X.2.2.2.2.2.1 X.2.2.2.1 0 0 (uA bs u0)) u 57 [(0, .ref (bs + a0)), (1, .int x1)] [] := by
  intro x1 u e h g
  unfold fX12_keep_B57 at h
  refine v_iload_n C 1 dX12_keep_57 rfl rfl ?_
  refine v_sipush C (258 : Int32) dX12_keep_58 (by decide) ?_
  refine v_icmpge C 91 dX12_keep_61 (by decide) h (fun _ h => ?_) (fun _ h => ?_)
  · refine v_sub [(0, .ref (bs + a0))] [0] rfl ?_
    exact hex u ((Option.some.inj h).symm ▸ g)
  · refine v_aload_n C 0 dX12_keep_64 rfl rfl ?_
    refine v_getR C fdX12_16 dX12_keep_65 h (fun b2 h => ?_)
    refine v_sipush C (258 : Int32) dX12_keep_68 (by decide) ?_
    refine v_aload_n C 0 dX12_keep_71 rfl rfl ?_
    refine v_getI C fdX12_91 dX12_keep_72 h (fun y3 h => ?_)
    refine v_imul C dX12_keep_75 ?_
    refine v_iload_n C 1 dX12_keep_76 rfl rfl ?_
    refine v_iadd C dX12_keep_77 ?_
    refine v_aload_n C 0 dX12_keep_78 rfl rfl ?_
    refine v_getR C fdX12_13 dX12_keep_79 h (fun b4 h => ?_)
    refine v_iload_n C 1 dX12_keep_82 rfl rfl ?_
    refine v_ldI C dX12_keep_83 h (fun y5 h => ?_)
    refine v_stI C dX12_keep_84 h (fun u6 h => ?_)
    refine v_iinc C 1 (x1 + (1 : Int32)) [(1, .int (x1 + (1 : Int32))), (0, .ref (bs + a0))] dX12_keep_85 rfl rfl (by decide) rfl ?_
    refine v_goto C 57 dX12_keep_88 (by decide) ?_
    refine v_sub [(0, .ref (bs + a0)), (1, .int (x1 + (1 : Int32)))] [1, 0] rfl ?_
    exact hk (x1 + (1 : Int32)) u6 _ h g
set_option maxRecDepth 100000 in
set_option maxHeartbeats 4000000 in
theorem wX12_keep_55 {X : UX} {D : UD} {bs tw : Nat} {u0 : UH} {v : UH} (C : uCx X D bs tw cX12_keep 2 RX12 none) (hin : X.2.2.2.2.2.2.2.1.name = "keep") {a0 : Nat} {u : UH} (h : fX12_keep_55 a0 u = some v) : VV X D bs u0 rmX12_keep 2 0 0 (MQ X.2.2.2.2.2.2.1 (uQv D bs u0 v) X.2.2.2.2.2.1 X.2.2.2.1 0 0 (uA bs u0)) u 55 [(0, .ref (bs + a0))] [] := by
  unfold fX12_keep_55 at h
  refine v_iconst C (0 : Int32) dX12_keep_55 (by decide) ?_
  refine v_istore_n C [(1, .int (0 : Int32)), (0, .ref (bs + a0))] dX12_keep_56 rfl (by decide) rfl ?_
  refine v_sub [(0, .ref (bs + a0)), (1, .int (0 : Int32))] [1, 0] rfl ?_
  refine it2_O (V := fun x1 u' => VV X D bs u0 rmX12_keep 2 0 0 (MQ X.2.2.2.2.2.2.1 (uQv D bs u0 v) X.2.2.2.2.2.1 X.2.2.2.1 0 0 (uA bs u0)) u' 57 [(0, .ref (bs + a0)), (1, .int x1)] []) h (fun k_ hk_ => wX12_keep_B57 C hin hk_ ?_ )
  intro z8 h
  try dsimp only [Sum.elim_inl] at h
  refine v_aload_n C 0 dX12_keep_91 rfl rfl ?_
  refine v_dup C dX12_keep_92 rfl ?_
  refine v_getI C fdX12_91 dX12_keep_93 h (fun y9 h => ?_)
  refine v_iconst C (1 : Int32) dX12_keep_96 (by decide) ?_
  refine v_iadd C dX12_keep_97 ?_
  refine v_putI C fdX12_91 (fun h => by cases h) dX12_keep_98 h (fun u10 h => ?_)
  exact v_vret C dX12_keep_101 (Option.some.inj h)
set_option maxRecDepth 100000 in
set_option maxHeartbeats 4000000 in
theorem wX12_keep_B21 {X : UX} {D : UD} {bs tw : Nat} {u0 : UH} {v : UH} (C : uCx X D bs tw cX12_keep 2 RX12 none) (hin : X.2.2.2.2.2.2.2.1.name = "keep") {a0 : Nat}  {G : UH → Prop} {k : Int32 → UH → Option UH} (hk : ∀ (x1 : Int32) (u' : UH) e, k x1 u' = some e → G e → VV X D bs u0 rmX12_keep 2 0 0 (MQ X.2.2.2.2.2.2.1 (uQv D bs u0 v) X.2.2.2.2.2.1 X.2.2.2.1 0 0 (uA bs u0)) u' 21 [(0, .ref (bs + a0)), (1, .int x1)] []) (hex : ∀  (u' : UH), G u' → VV X D bs u0 rmX12_keep 2 0 0 (MQ X.2.2.2.2.2.2.1 (uQv D bs u0 v) X.2.2.2.2.2.1 X.2.2.2.1 0 0 (uA bs u0)) u' 55 [(0, .ref (bs + a0))] [])  : ∀ (x1 : Int32) (u : UH) e, fX12_keep_B21 a0  k x1 u = some e → G e → VV X D bs u0 rmX12_keep 2 0 0 (MQ X.2.2.2.2.2.2.1 (uQv D bs u0 v) X.2.2.2.2.2.1 X.2.2.2.1 0 0 (uA bs u0)) u 21 [(0, .ref (bs + a0)), (1, .int x1)] [] := by
  intro x1 u e h g
  unfold fX12_keep_B21 at h
  refine v_iload_n C 1 dX12_keep_21 rfl rfl ?_
  refine v_sipush C (258 : Int32) dX12_keep_22 (by decide) ?_
  refine v_aload_n C 0 dX12_keep_25 rfl rfl ?_
  refine v_getI C fdX12_91 dX12_keep_26 h (fun y13 h => ?_)
  refine v_imul C dX12_keep_29 ?_
  refine v_icmpge C 55 dX12_keep_30 (by decide) h (fun _ h => ?_) (fun _ h => ?_)
  · refine v_sub [(0, .ref (bs + a0))] [0] rfl ?_
    exact hex u ((Option.some.inj h).symm ▸ g)
  · refine v_aload_n C 0 dX12_keep_33 rfl rfl ?_
    refine v_getR C fdX12_16 dX12_keep_34 h (fun b14 h => ?_)
    refine v_iload_n C 1 dX12_keep_37 rfl rfl ?_
    refine v_aload_n C 0 dX12_keep_38 rfl rfl ?_
    refine v_getR C fdX12_16 dX12_keep_39 h (fun b15 h => ?_)
    refine v_iload_n C 1 dX12_keep_42 rfl rfl ?_
    refine v_sipush C (258 : Int32) dX12_keep_43 (by decide) ?_
    refine v_iadd C dX12_keep_46 ?_
    refine v_ldI C dX12_keep_47 h (fun y16 h => ?_)
    refine v_stI C dX12_keep_48 h (fun u17 h => ?_)
    refine v_iinc C 1 (x1 + (1 : Int32)) [(1, .int (x1 + (1 : Int32))), (0, .ref (bs + a0))] dX12_keep_49 rfl rfl (by decide) rfl ?_
    refine v_goto C 21 dX12_keep_52 (by decide) ?_
    refine v_sub [(0, .ref (bs + a0)), (1, .int (x1 + (1 : Int32)))] [1, 0] rfl ?_
    exact hk (x1 + (1 : Int32)) u17 _ h g
set_option maxRecDepth 100000 in
set_option maxHeartbeats 4000000 in
theorem mX12_keep {l : Launch} {D : UD} {bs : Nat} {a0 : Nat} {u0 : UH} {v : UH} (h : fX12_keep a0 u0 = some v) : Met l yX12_keep (wz yX12_keep cX12_keep 2 none) rmX12_keep (va_Pc [.ref (bs + a0)] (uIn D bs u0)) (uQv D bs u0 v) 0 0 (uA bs u0) := by
  refine uMet (by decide) (Nat.le_of_ble_eq_true rfl) ?_
  intro X tw hX C hin
  have C : uCx X D bs tw cX12_keep 2 RX12 none := C
  have hin : X.2.2.2.2.2.2.2.1.name = "keep" := hin
  refine v_L [(0, .ref (bs + a0))] rfl ?_
  unfold fX12_keep at h
  refine v_aload_n C 0 dX12_keep_0 rfl rfl ?_
  refine v_getI C fdX12_91 dX12_keep_1 h (fun y1 h => ?_)
  refine v_bipush C (12 : Int32) dX12_keep_4 (by decide) ?_
  refine v_icmpne C 55 dX12_keep_6 (by decide) h (fun _ h => ?_) (fun _ h => ?_)
  · refine v_sub [(0, .ref (bs + a0))] [0] rfl ?_
    exact wX12_keep_55 C hin h
  · refine v_aload_n C 0 dX12_keep_9 rfl rfl ?_
    refine v_dup C dX12_keep_10 rfl ?_
    refine v_getI C fdX12_91 dX12_keep_11 h (fun y11 h => ?_)
    refine v_iconst C (1 : Int32) dX12_keep_14 (by decide) ?_
    refine v_isub C dX12_keep_15 ?_
    refine v_putI C fdX12_91 (fun h => by cases h) dX12_keep_16 h (fun u12 h => ?_)
    refine v_iconst C (0 : Int32) dX12_keep_19 (by decide) ?_
    refine v_istore_n C [(1, .int (0 : Int32)), (0, .ref (bs + a0))] dX12_keep_20 rfl (by decide) rfl ?_
    refine v_sub [(0, .ref (bs + a0)), (1, .int (0 : Int32))] [1, 0] rfl ?_
    refine it2_O (V := fun x1 u' => VV X D bs u0 rmX12_keep 2 0 0 (MQ X.2.2.2.2.2.2.1 (uQv D bs u0 v) X.2.2.2.2.2.1 X.2.2.2.1 0 0 (uA bs u0)) u' 21 [(0, .ref (bs + a0)), (1, .int x1)] []) h (fun k_ hk_ => wX12_keep_B21 C hin hk_ ?_ )
    intro z19 h
    try dsimp only [Sum.elim_inl] at h
    refine v_sub [(0, .ref (bs + a0))] [0] rfl ?_
    exact wX12_keep_55 C hin h
set_option maxRecDepth 100000 in
set_option maxHeartbeats 4000000 in
theorem wX12_undo_B22 {X : UX} {D : UD} {bs tw : Nat} {u0 : UH} {r : Int32} {v : UH} (C : uCx X D bs tw cX12_undo 2 RX12 (some .int)) (hin : X.2.2.2.2.2.2.2.1.name = "undo") {a0 : Nat}  {G : UH → Prop} {k : Int32 → UH → Option UH} (hk : ∀ (x1 : Int32) (u' : UH) e, k x1 u' = some e → G e → VV X D bs u0 rmX12_undo 2 0 0 (MQ X.2.2.2.2.2.2.1 (uQi D bs u0 v r) X.2.2.2.2.2.1 X.2.2.2.1 0 0 (uA bs u0)) u' 22 [(0, .ref (bs + a0)), (1, .int x1)] []) (hex : ∀  (u' : UH), G u' → VV X D bs u0 rmX12_undo 2 0 0 (MQ X.2.2.2.2.2.2.1 (uQi D bs u0 v r) X.2.2.2.2.2.1 X.2.2.2.1 0 0 (uA bs u0)) u' 56 [(0, .ref (bs + a0))] [])  : ∀ (x1 : Int32) (u : UH) e, fX12_undo_B22 a0  k x1 u = some e → G e → VV X D bs u0 rmX12_undo 2 0 0 (MQ X.2.2.2.2.2.2.1 (uQi D bs u0 v r) X.2.2.2.2.2.1 X.2.2.2.1 0 0 (uA bs u0)) u 22 [(0, .ref (bs + a0)), (1, .int x1)] [] := by
  intro x1 u e h g
  unfold fX12_undo_B22 at h
  refine v_iload_n C 1 dX12_undo_22 rfl rfl ?_
  refine v_sipush C (258 : Int32) dX12_undo_23 (by decide) ?_
  refine v_icmpge C 56 dX12_undo_26 (by decide) h (fun _ h => ?_) (fun _ h => ?_)
  · refine v_sub [(0, .ref (bs + a0))] [0] rfl ?_
    exact hex u ((Option.some.inj h).symm ▸ g)
  · refine v_aload_n C 0 dX12_undo_29 rfl rfl ?_
    refine v_getR C fdX12_13 dX12_undo_30 h (fun b4 h => ?_)
    refine v_iload_n C 1 dX12_undo_33 rfl rfl ?_
    refine v_aload_n C 0 dX12_undo_34 rfl rfl ?_
    refine v_getR C fdX12_16 dX12_undo_35 h (fun b5 h => ?_)
    refine v_sipush C (258 : Int32) dX12_undo_38 (by decide) ?_
    refine v_aload_n C 0 dX12_undo_41 rfl rfl ?_
    refine v_getI C fdX12_91 dX12_undo_42 h (fun y6 h => ?_)
    refine v_imul C dX12_undo_45 ?_
    refine v_iload_n C 1 dX12_undo_46 rfl rfl ?_
    refine v_iadd C dX12_undo_47 ?_
    refine v_ldI C dX12_undo_48 h (fun y7 h => ?_)
    refine v_stI C dX12_undo_49 h (fun u8 h => ?_)
    refine v_iinc C 1 (x1 + (1 : Int32)) [(1, .int (x1 + (1 : Int32))), (0, .ref (bs + a0))] dX12_undo_50 rfl rfl (by decide) rfl ?_
    refine v_goto C 22 dX12_undo_53 (by decide) ?_
    refine v_sub [(0, .ref (bs + a0)), (1, .int (x1 + (1 : Int32)))] [1, 0] rfl ?_
    exact hk (x1 + (1 : Int32)) u8 _ h g
set_option maxRecDepth 100000 in
set_option maxHeartbeats 4000000 in
theorem mX12_undo {l : Launch} {D : UD} {bs : Nat} {a0 : Nat} {u0 : UH} {r : Int32} {v : UH} (h : fX12_undo a0 u0 = some (r, v)) : Met l yX12_undo (wz yX12_undo cX12_undo 2 (some .int)) rmX12_undo (va_Pc [.ref (bs + a0)] (uIn D bs u0)) (uQi D bs u0 v r) 0 0 (uA bs u0) := by
  refine uMet (by decide) (Nat.le_of_ble_eq_true rfl) ?_
  intro X tw hX C hin
  have C : uCx X D bs tw cX12_undo 2 RX12 (some .int) := C
  have hin : X.2.2.2.2.2.2.2.1.name = "undo" := hin
  refine v_L [(0, .ref (bs + a0))] rfl ?_
  unfold fX12_undo at h
  refine v_aload_n C 0 dX12_undo_0 rfl rfl ?_
  refine v_getI C fdX12_91 dX12_undo_1 h (fun y1 h => ?_)
  refine v_ifne C 10 dX12_undo_4 (by decide) h (fun _ h => ?_) (fun _ h => ?_)
  · refine v_aload_n C 0 dX12_undo_10 rfl rfl ?_
    refine v_dup C dX12_undo_11 rfl ?_
    refine v_getI C fdX12_91 dX12_undo_12 h (fun y2 h => ?_)
    refine v_iconst C (1 : Int32) dX12_undo_15 (by decide) ?_
    refine v_isub C dX12_undo_16 ?_
    refine v_putI C fdX12_91 (fun h => by cases h) dX12_undo_17 h (fun u3 h => ?_)
    refine v_iconst C (0 : Int32) dX12_undo_20 (by decide) ?_
    refine v_istore_n C [(1, .int (0 : Int32)), (0, .ref (bs + a0))] dX12_undo_21 rfl (by decide) rfl ?_
    refine v_sub [(0, .ref (bs + a0)), (1, .int (0 : Int32))] [1, 0] rfl ?_
    refine it2_O (V := fun x1 u' => VV X D bs u0 rmX12_undo 2 0 0 (MQ X.2.2.2.2.2.2.1 (uQi D bs u0 v r) X.2.2.2.2.2.1 X.2.2.2.1 0 0 (uA bs u0)) u' 22 [(0, .ref (bs + a0)), (1, .int x1)] []) h (fun k_ hk_ => wX12_undo_B22 C hin hk_ ?_ )
    intro z10 h
    try dsimp only [Sum.elim_inl] at h
    refine v_aload_n C 0 dX12_undo_56 rfl rfl ?_
    refine v_getI C fdX12_91 dX12_undo_57 h (fun y11 h => ?_)
    exact v_iret C dX12_undo_60 (Prod.mk.inj (Option.some.inj h)).2 (Prod.mk.inj (Option.some.inj h)).1
  · refine v_bipush C (-6 : Int32) dX12_undo_7 (by decide) ?_
    exact v_iret C dX12_undo_9 (Prod.mk.inj (Option.some.inj h)).2 (Prod.mk.inj (Option.some.inj h)).1
set_option maxRecDepth 100000 in
set_option maxHeartbeats 4000000 in
theorem wX12_open_B14 {X : UX} {D : UD} {bs tw : Nat} {u0 : UH} {v : UH} (C : uCx X D bs tw cX12_open 5 RX12 none) (hin : X.2.2.2.2.2.2.2.1.name = "open") {a0 : Nat} {x1 : Int32} {x2 : Int32} {x3 : Int32}  {G : UH → Prop} {k : Int32 → UH → Option UH} (hk : ∀ (x4 : Int32) (u' : UH) e, k x4 u' = some e → G e → VV X D bs u0 rmX12_open 5 0 0 (MQ X.2.2.2.2.2.2.1 (uQv D bs u0 v) X.2.2.2.2.2.1 X.2.2.2.1 0 0 (uA bs u0)) u' 14 [(0, .ref (bs + a0)), (1, .int x1), (2, .int x2), (3, .int x3), (4, .int x4)] []) (hex : ∀  (u' : UH), G u' → VV X D bs u0 rmX12_open 5 0 0 (MQ X.2.2.2.2.2.2.1 (uQv D bs u0 v) X.2.2.2.2.2.1 X.2.2.2.1 0 0 (uA bs u0)) u' 45 [(0, .ref (bs + a0)), (1, .int x1), (2, .int x2), (3, .int x3)] [])  : ∀ (x4 : Int32) (u : UH) e, fX12_open_B14 a0 x1 x3  k x4 u = some e → G e → VV X D bs u0 rmX12_open 5 0 0 (MQ X.2.2.2.2.2.2.1 (uQv D bs u0 v) X.2.2.2.2.2.1 X.2.2.2.1 0 0 (uA bs u0)) u 14 [(0, .ref (bs + a0)), (1, .int x1), (2, .int x2), (3, .int x3), (4, .int x4)] [] := by
  intro x4 u e h g
  unfold fX12_open_B14 at h
  refine v_iload C 4 dX12_open_14 rfl ?_
  refine v_bipush C (7 : Int32) dX12_open_16 (by decide) ?_
  refine v_icmpge C 45 dX12_open_18 (by decide) h (fun _ h => ?_) (fun _ h => ?_)
  · refine v_sub [(0, .ref (bs + a0)), (1, .int x1), (2, .int x2), (3, .int x3)] [0, 1, 2, 3] rfl ?_
    exact hex u ((Option.some.inj h).symm ▸ g)
  · refine v_aload_n C 0 dX12_open_21 rfl rfl ?_
    refine v_iload_n C 1 dX12_open_22 rfl rfl ?_
    refine v_iload_n C 3 dX12_open_23 rfl rfl ?_
    refine v_iload C 4 dX12_open_24 rfl ?_
    refine v_aload_n C 0 dX12_open_26 rfl rfl ?_
    refine v_iload_n C 1 dX12_open_27 rfl rfl ?_
    refine v_iload_n C 3 dX12_open_28 rfl rfl ?_
    refine v_iconst C (1 : Int32) dX12_open_29 (by decide) ?_
    refine v_isub C dX12_open_30 ?_
    refine v_iload C 4 dX12_open_31 rfl ?_
    obtain ⟨y2, h1, h⟩ := ob_some h
    obtain ⟨hkd, h1⟩ := kd_some h1
    refine v_goi (rn_V C gcX12_114 (RX12, TX12, 33) rfl rfl (by decide) hkd (mX12_of h1) ⟨rfl, rfl⟩ rfl ⟨Nat.le_of_ble_eq_true rfl, Nat.le_of_ble_eq_true rfl⟩ (rest := [.int x4, .int x3, .int x1, .ref (bs + a0)]) rfl (Nat.le_of_ble_eq_true rfl) ⟨Nat.le_of_ble_eq_true rfl, Nat.le_of_ble_eq_true rfl⟩ dX12_open_33) ?_
    obtain ⟨u3, h1, h⟩ := ob_some h
    obtain ⟨hkd, h1⟩ := kd_some h1
    refine v_gov (rn_V C gcX12_118 (RX12, TX12, 33) rfl rfl (by decide) hkd (mX12_put h1) ⟨rfl, rfl⟩ rfl ⟨Nat.le_of_ble_eq_true rfl, Nat.le_of_ble_eq_true rfl⟩ (rest := []) rfl (Nat.le_of_ble_eq_true rfl) ⟨Nat.le_of_ble_eq_true rfl, Nat.le_of_ble_eq_true rfl⟩ dX12_open_36) ?_
    refine v_iinc C 4 (x4 + (1 : Int32)) [(4, .int (x4 + (1 : Int32))), (0, .ref (bs + a0)), (1, .int x1), (2, .int x2), (3, .int x3)] dX12_open_39 rfl rfl (by decide) rfl ?_
    refine v_goto C 14 dX12_open_42 (by decide) ?_
    refine v_sub [(0, .ref (bs + a0)), (1, .int x1), (2, .int x2), (3, .int x3), (4, .int (x4 + (1 : Int32)))] [1, 2, 3, 4, 0] rfl ?_
    exact hk (x4 + (1 : Int32)) u3 _ h g
set_option maxRecDepth 100000 in
set_option maxHeartbeats 4000000 in
theorem wX12_open_B6 {X : UX} {D : UD} {bs tw : Nat} {u0 : UH} {v : UH} (C : uCx X D bs tw cX12_open 5 RX12 none) (hin : X.2.2.2.2.2.2.2.1.name = "open") {a0 : Nat} {x1 : Int32} {x2 : Int32}  {G : UH → Prop} {k : Int32 → UH → Option UH} (hk : ∀ (x3 : Int32) (u' : UH) e, k x3 u' = some e → G e → VV X D bs u0 rmX12_open 5 0 0 (MQ X.2.2.2.2.2.2.1 (uQv D bs u0 v) X.2.2.2.2.2.1 X.2.2.2.1 0 0 (uA bs u0)) u' 6 [(0, .ref (bs + a0)), (1, .int x1), (2, .int x2), (3, .int x3)] []) (hex : ∀  (u' : UH), G u' → VV X D bs u0 rmX12_open 5 0 0 (MQ X.2.2.2.2.2.2.1 (uQv D bs u0 v) X.2.2.2.2.2.1 X.2.2.2.1 0 0 (uA bs u0)) u' 51 [(0, .ref (bs + a0)), (1, .int x1)] [])  : ∀ (x3 : Int32) (u : UH) e, fX12_open_B6 a0 x1 x2  k x3 u = some e → G e → VV X D bs u0 rmX12_open 5 0 0 (MQ X.2.2.2.2.2.2.1 (uQv D bs u0 v) X.2.2.2.2.2.1 X.2.2.2.1 0 0 (uA bs u0)) u 6 [(0, .ref (bs + a0)), (1, .int x1), (2, .int x2), (3, .int x3)] [] := by
  intro x3 u e h g
  unfold fX12_open_B6 at h
  refine v_iload_n C 3 dX12_open_6 rfl rfl ?_
  refine v_iload_n C 2 dX12_open_7 rfl rfl ?_
  refine v_icmple C 51 dX12_open_8 (by decide) h (fun _ h => ?_) (fun _ h => ?_)
  · refine v_sub [(0, .ref (bs + a0)), (1, .int x1)] [0, 1] rfl ?_
    exact hex u ((Option.some.inj h).symm ▸ g)
  · refine v_iconst C (0 : Int32) dX12_open_11 (by decide) ?_
    refine v_istore C [(4, .int (0 : Int32)), (0, .ref (bs + a0)), (1, .int x1), (2, .int x2), (3, .int x3)] dX12_open_12 (by decide) rfl ?_
    refine v_sub [(0, .ref (bs + a0)), (1, .int x1), (2, .int x2), (3, .int x3), (4, .int (0 : Int32))] [1, 2, 3, 4, 0] rfl ?_
    refine it2_O (V := fun x4 u' => VV X D bs u0 rmX12_open 5 0 0 (MQ X.2.2.2.2.2.2.1 (uQv D bs u0 v) X.2.2.2.2.2.1 X.2.2.2.1 0 0 (uA bs u0)) u' 14 [(0, .ref (bs + a0)), (1, .int x1), (2, .int x2), (3, .int x3), (4, .int x4)] []) h (fun k_ hk_ => wX12_open_B14 C hin hk_ ?_ )
    intro z5 h
    try dsimp only [Sum.elim_inl] at h
    refine v_iinc C 3 (x3 + (-1 : Int32)) [(3, .int (x3 + (-1 : Int32))), (0, .ref (bs + a0)), (1, .int x1), (2, .int x2)] dX12_open_45 rfl rfl (by decide) rfl ?_
    refine v_goto C 6 dX12_open_48 (by decide) ?_
    refine v_sub [(0, .ref (bs + a0)), (1, .int x1), (2, .int x2), (3, .int (x3 + (-1 : Int32)))] [1, 2, 3, 0] rfl ?_
    exact hk (x3 + (-1 : Int32)) z5 _ h g
set_option maxRecDepth 100000 in
set_option maxHeartbeats 4000000 in
theorem mX12_open {l : Launch} {D : UD} {bs : Nat} {a0 : Nat} {x1 : Int32} {x2 : Int32} {u0 : UH} {v : UH} (h : fX12_open a0 x1 x2 u0 = some v) : Met l yX12_open (wz yX12_open cX12_open 5 none) rmX12_open (va_Pc [.ref (bs + a0), .int x1, .int x2] (uIn D bs u0)) (uQv D bs u0 v) 0 0 (uA bs u0) := by
  refine uMet (by decide) (Nat.le_of_ble_eq_true rfl) ?_
  intro X tw hX C hin
  have C : uCx X D bs tw cX12_open 5 RX12 none := C
  have hin : X.2.2.2.2.2.2.2.1.name = "open" := hin
  refine v_L [(0, .ref (bs + a0)), (1, .int x1), (2, .int x2)] rfl ?_
  unfold fX12_open at h
  refine v_aload_n C 0 dX12_open_0 rfl rfl ?_
  refine v_iload_n C 1 dX12_open_1 rfl rfl ?_
  obtain ⟨y1, h1, h⟩ := ob_some h
  obtain ⟨hkd, h1⟩ := kd_some h1
  refine v_goi (rn_V C gcX12_110 (RX12, TX12, 33) rfl rfl (by decide) hkd (mX12_many h1) ⟨rfl, rfl⟩ rfl ⟨Nat.le_of_ble_eq_true rfl, Nat.le_of_ble_eq_true rfl⟩ (rest := []) rfl (Nat.le_of_ble_eq_true rfl) ⟨Nat.le_of_ble_eq_true rfl, Nat.le_of_ble_eq_true rfl⟩ dX12_open_2) ?_
  refine v_istore_n C [(3, .int y1), (0, .ref (bs + a0)), (1, .int x1), (2, .int x2)] dX12_open_5 rfl (by decide) rfl ?_
  refine v_sub [(0, .ref (bs + a0)), (1, .int x1), (2, .int x2), (3, .int y1)] [1, 2, 3, 0] rfl ?_
  refine it2_O (V := fun x3 u' => VV X D bs u0 rmX12_open 5 0 0 (MQ X.2.2.2.2.2.2.1 (uQv D bs u0 v) X.2.2.2.2.2.1 X.2.2.2.1 0 0 (uA bs u0)) u' 6 [(0, .ref (bs + a0)), (1, .int x1), (2, .int x2), (3, .int x3)] []) h (fun k_ hk_ => wX12_open_B6 C hin hk_ ?_ )
  intro z7 h
  try dsimp only [Sum.elim_inl] at h
  refine v_aload_n C 0 dX12_open_51 rfl rfl ?_
  refine v_getR C fdX12_13 dX12_open_52 h (fun b8 h => ?_)
  refine v_sipush C (252 : Int32) dX12_open_55 (by decide) ?_
  refine v_iload_n C 1 dX12_open_58 rfl rfl ?_
  refine v_iadd C dX12_open_59 ?_
  refine v_dup2 C dX12_open_60 rfl rfl ?_
  refine v_ldI C dX12_open_61 h (fun y9 h => ?_)
  refine v_iconst C (1 : Int32) dX12_open_62 (by decide) ?_
  refine v_iadd C dX12_open_63 ?_
  refine v_stI C dX12_open_64 h (fun u10 h => ?_)
  exact v_vret C dX12_open_65 (Option.some.inj h)
set_option maxRecDepth 100000 in
set_option maxHeartbeats 4000000 in
theorem wX12_close_B28 {X : UX} {D : UD} {bs tw : Nat} {u0 : UH} {v : UH} (C : uCx X D bs tw cX12_close 5 RX12 none) (hin : X.2.2.2.2.2.2.2.1.name = "close") {a0 : Nat} {x1 : Int32} {x3 : Int32}  {G : UH → Prop} {k : Int32 → UH → Option UH} (hk : ∀ (x4 : Int32) (u' : UH) e, k x4 u' = some e → G e → VV X D bs u0 rmX12_close 5 0 0 (MQ X.2.2.2.2.2.2.1 (uQv D bs u0 v) X.2.2.2.2.2.1 X.2.2.2.1 0 0 (uA bs u0)) u' 28 [(0, .ref (bs + a0)), (1, .int x1), (3, .int x3), (4, .int x4)] []) (hex : ∀  (u' : UH), G u' → VV X D bs u0 rmX12_close 5 0 0 (MQ X.2.2.2.2.2.2.1 (uQv D bs u0 v) X.2.2.2.2.2.1 X.2.2.2.1 0 0 (uA bs u0)) u' 59 [(0, .ref (bs + a0)), (1, .int x1), (3, .int x3)] [])  : ∀ (x4 : Int32) (u : UH) e, fX12_close_B28 a0 x1 x3  k x4 u = some e → G e → VV X D bs u0 rmX12_close 5 0 0 (MQ X.2.2.2.2.2.2.1 (uQv D bs u0 v) X.2.2.2.2.2.1 X.2.2.2.1 0 0 (uA bs u0)) u 28 [(0, .ref (bs + a0)), (1, .int x1), (3, .int x3), (4, .int x4)] [] := by
  intro x4 u e h g
  unfold fX12_close_B28 at h
  refine v_iload C 3 dX12_close_28 rfl ?_
  refine v_bipush C (7 : Int32) dX12_close_30 (by decide) ?_
  refine v_icmpge C 59 dX12_close_32 (by decide) h (fun _ h => ?_) (fun _ h => ?_)
  · refine v_sub [(0, .ref (bs + a0)), (1, .int x1), (3, .int x3)] [0, 1, 2] rfl ?_
    exact hex u ((Option.some.inj h).symm ▸ g)
  · refine v_aload_n C 0 dX12_close_35 rfl rfl ?_
    refine v_iload_n C 1 dX12_close_36 rfl rfl ?_
    refine v_iload_n C 2 dX12_close_37 rfl rfl ?_
    refine v_iload C 3 dX12_close_38 rfl ?_
    refine v_aload_n C 0 dX12_close_40 rfl rfl ?_
    refine v_iload_n C 1 dX12_close_41 rfl rfl ?_
    refine v_iload_n C 2 dX12_close_42 rfl rfl ?_
    refine v_iconst C (1 : Int32) dX12_close_43 (by decide) ?_
    refine v_iadd C dX12_close_44 ?_
    refine v_iload C 3 dX12_close_45 rfl ?_
    obtain ⟨y5, h1, h⟩ := ob_some h
    obtain ⟨hkd, h1⟩ := kd_some h1
    refine v_goi (rn_V C gcX12_114 (RX12, TX12, 33) rfl rfl (by decide) hkd (mX12_of h1) ⟨rfl, rfl⟩ rfl ⟨Nat.le_of_ble_eq_true rfl, Nat.le_of_ble_eq_true rfl⟩ (rest := [.int x4, .int x3, .int x1, .ref (bs + a0)]) rfl (Nat.le_of_ble_eq_true rfl) ⟨Nat.le_of_ble_eq_true rfl, Nat.le_of_ble_eq_true rfl⟩ dX12_close_47) ?_
    obtain ⟨u6, h1, h⟩ := ob_some h
    obtain ⟨hkd, h1⟩ := kd_some h1
    refine v_gov (rn_V C gcX12_118 (RX12, TX12, 33) rfl rfl (by decide) hkd (mX12_put h1) ⟨rfl, rfl⟩ rfl ⟨Nat.le_of_ble_eq_true rfl, Nat.le_of_ble_eq_true rfl⟩ (rest := []) rfl (Nat.le_of_ble_eq_true rfl) ⟨Nat.le_of_ble_eq_true rfl, Nat.le_of_ble_eq_true rfl⟩ dX12_close_50) ?_
    refine v_iinc C 3 (x4 + (1 : Int32)) [(4, .int (x4 + (1 : Int32))), (0, .ref (bs + a0)), (1, .int x1), (3, .int x3)] dX12_close_53 rfl rfl (by decide) rfl ?_
    refine v_goto C 28 dX12_close_56 (by decide) ?_
    refine v_sub [(0, .ref (bs + a0)), (1, .int x1), (3, .int x3), (4, .int (x4 + (1 : Int32)))] [1, 2, 3, 0] rfl ?_
    exact hk (x4 + (1 : Int32)) u6 _ h g
set_option maxRecDepth 100000 in
set_option maxHeartbeats 4000000 in
theorem wX12_close_B16 {X : UX} {D : UD} {bs tw : Nat} {u0 : UH} {v : UH} (C : uCx X D bs tw cX12_close 5 RX12 none) (hin : X.2.2.2.2.2.2.2.1.name = "close") {a0 : Nat} {x1 : Int32}  {G : UH → Prop} {k : Int32 → UH → Option UH} (hk : ∀ (x3 : Int32) (u' : UH) e, k x3 u' = some e → G e → VV X D bs u0 rmX12_close 5 0 0 (MQ X.2.2.2.2.2.2.1 (uQv D bs u0 v) X.2.2.2.2.2.1 X.2.2.2.1 0 0 (uA bs u0)) u' 16 [(0, .ref (bs + a0)), (1, .int x1), (3, .int x3)] []) (hex : ∀  (u' : UH), G u' → VV X D bs u0 rmX12_close 5 0 0 (MQ X.2.2.2.2.2.2.1 (uQv D bs u0 v) X.2.2.2.2.2.1 X.2.2.2.1 0 0 (uA bs u0)) u' 65 [] [])  : ∀ (x3 : Int32) (u : UH) e, fX12_close_B16 a0 x1  k x3 u = some e → G e → VV X D bs u0 rmX12_close 5 0 0 (MQ X.2.2.2.2.2.2.1 (uQv D bs u0 v) X.2.2.2.2.2.1 X.2.2.2.1 0 0 (uA bs u0)) u 16 [(0, .ref (bs + a0)), (1, .int x1), (3, .int x3)] [] := by
  intro x3 u e h g
  unfold fX12_close_B16 at h
  refine v_iload_n C 2 dX12_close_16 rfl rfl ?_
  refine v_aload_n C 0 dX12_close_17 rfl rfl ?_
  refine v_iload_n C 1 dX12_close_18 rfl rfl ?_
  obtain ⟨y4, h1, h⟩ := ob_some h
  obtain ⟨hkd, h1⟩ := kd_some h1
  refine v_goi (rn_V C gcX12_110 (RX12, TX12, 33) rfl rfl (by decide) hkd (mX12_many h1) ⟨rfl, rfl⟩ rfl ⟨Nat.le_of_ble_eq_true rfl, Nat.le_of_ble_eq_true rfl⟩ (rest := [.int x3]) rfl (Nat.le_of_ble_eq_true rfl) ⟨Nat.le_of_ble_eq_true rfl, Nat.le_of_ble_eq_true rfl⟩ dX12_close_19) ?_
  refine v_icmpge C 65 dX12_close_22 (by decide) h (fun _ h => ?_) (fun _ h => ?_)
  · refine v_sub [] [] rfl ?_
    exact hex u ((Option.some.inj h).symm ▸ g)
  · refine v_iconst C (0 : Int32) dX12_close_25 (by decide) ?_
    refine v_istore C [(4, .int (0 : Int32)), (0, .ref (bs + a0)), (1, .int x1), (3, .int x3)] dX12_close_26 (by decide) rfl ?_
    refine v_sub [(0, .ref (bs + a0)), (1, .int x1), (3, .int x3), (4, .int (0 : Int32))] [1, 2, 3, 0] rfl ?_
    refine it2_O (V := fun x4 u' => VV X D bs u0 rmX12_close 5 0 0 (MQ X.2.2.2.2.2.2.1 (uQv D bs u0 v) X.2.2.2.2.2.1 X.2.2.2.1 0 0 (uA bs u0)) u' 28 [(0, .ref (bs + a0)), (1, .int x1), (3, .int x3), (4, .int x4)] []) h (fun k_ hk_ => wX12_close_B28 C hin hk_ ?_ )
    intro z8 h
    try dsimp only [Sum.elim_inl] at h
    refine v_iinc C 2 (x3 + (1 : Int32)) [(3, .int (x3 + (1 : Int32))), (0, .ref (bs + a0)), (1, .int x1)] dX12_close_59 rfl rfl (by decide) rfl ?_
    refine v_goto C 16 dX12_close_62 (by decide) ?_
    refine v_sub [(0, .ref (bs + a0)), (1, .int x1), (3, .int (x3 + (1 : Int32)))] [1, 2, 0] rfl ?_
    exact hk (x3 + (1 : Int32)) z8 _ h g
set_option maxRecDepth 100000 in
set_option maxHeartbeats 4000000 in
theorem mX12_close {l : Launch} {D : UD} {bs : Nat} {a0 : Nat} {x1 : Int32} {x2 : Int32} {u0 : UH} {v : UH} (h : fX12_close a0 x1 x2 u0 = some v) : Met l yX12_close (wz yX12_close cX12_close 5 none) rmX12_close (va_Pc [.ref (bs + a0), .int x1, .int x2] (uIn D bs u0)) (uQv D bs u0 v) 0 0 (uA bs u0) := by
  refine uMet (by decide) (Nat.le_of_ble_eq_true rfl) ?_
  intro X tw hX C hin
  have C : uCx X D bs tw cX12_close 5 RX12 none := C
  have hin : X.2.2.2.2.2.2.2.1.name = "close" := hin
  refine v_L [(0, .ref (bs + a0)), (1, .int x1), (2, .int x2)] rfl ?_
  unfold fX12_close at h
  refine v_aload_n C 0 dX12_close_0 rfl rfl ?_
  refine v_getR C fdX12_13 dX12_close_1 h (fun b1 h => ?_)
  refine v_sipush C (252 : Int32) dX12_close_4 (by decide) ?_
  refine v_iload_n C 1 dX12_close_7 rfl rfl ?_
  refine v_iadd C dX12_close_8 ?_
  refine v_dup2 C dX12_close_9 rfl rfl ?_
  refine v_ldI C dX12_close_10 h (fun y2 h => ?_)
  refine v_iconst C (1 : Int32) dX12_close_11 (by decide) ?_
  refine v_isub C dX12_close_12 ?_
  refine v_stI C dX12_close_13 h (fun u3 h => ?_)
  refine v_iload_n C 2 dX12_close_14 rfl rfl ?_
  refine v_istore_n C [(3, .int x2), (0, .ref (bs + a0)), (1, .int x1), (2, .int x2)] dX12_close_15 rfl (by decide) rfl ?_
  refine v_sub [(0, .ref (bs + a0)), (1, .int x1), (3, .int x2)] [1, 2, 0] rfl ?_
  refine it2_O (V := fun x3 u' => VV X D bs u0 rmX12_close 5 0 0 (MQ X.2.2.2.2.2.2.1 (uQv D bs u0 v) X.2.2.2.2.2.1 X.2.2.2.1 0 0 (uA bs u0)) u' 16 [(0, .ref (bs + a0)), (1, .int x1), (3, .int x3)] []) h (fun k_ hk_ => wX12_close_B16 C hin hk_ ?_ )
  intro z10 h
  try dsimp only [Sum.elim_inl] at h
  exact v_vret C dX12_close_65 (Option.some.inj h)
set_option maxRecDepth 100000 in
set_option maxHeartbeats 4000000 in
theorem mX12_insert {l : Launch} {D : UD} {bs : Nat} {a0 : Nat} {x1 : Int32} {x2 : Int32} {x3 : Int32} {x4 : Int32} {x5 : Int32} {x6 : Int32} {u0 : UH} {r : Int32} {v : UH} (h : fX12_insert a0 x1 x2 x3 x4 x5 x6 u0 = some (r, v)) : Met l yX12_insert (wz yX12_insert cX12_insert 7 (some .int)) rmX12_insert (va_Pc [.ref (bs + a0), .int x1, .int x2, .int x3, .int x4, .int x5, .int x6] (uIn D bs u0)) (uQi D bs u0 v r) 0 0 (uA bs u0) := by
  refine uMet (by decide) (Nat.le_of_ble_eq_true rfl) ?_
  intro X tw hX C hin
  have C : uCx X D bs tw cX12_insert 7 RX12 (some .int) := C
  have hin : X.2.2.2.2.2.2.2.1.name = "insert" := hin
  refine v_L [(0, .ref (bs + a0)), (1, .int x1), (2, .int x2), (3, .int x3), (4, .int x4), (5, .int x5), (6, .int x6)] rfl ?_
  unfold fX12_insert at h
  refine v_iload_n C 1 dX12_insert_0 rfl rfl ?_
  obtain ⟨y1, h1, h⟩ := ob_some h
  refine v_goi (rn_S C gcX12_102 (mX12_noBox h1) ⟨rfl, rfl⟩ rfl ⟨Nat.le_of_ble_eq_true rfl, Nat.le_of_ble_eq_true rfl⟩ (rest := []) rfl (Nat.le_of_ble_eq_true rfl) ⟨Nat.le_of_ble_eq_true rfl, Nat.le_of_ble_eq_true rfl⟩ dX12_insert_1) ?_
  refine v_ifeq C 9 dX12_insert_4 (by decide) h (fun _ h => ?_) (fun _ h => ?_)
  · refine v_iload_n C 2 dX12_insert_9 rfl rfl ?_
    refine v_iconst C (0 : Int32) dX12_insert_10 (by decide) ?_
    refine v_aload_n C 0 dX12_insert_11 rfl rfl ?_
    refine v_iload_n C 1 dX12_insert_12 rfl rfl ?_
    obtain ⟨y2, h1, h⟩ := ob_some h
    obtain ⟨hkd, h1⟩ := kd_some h1
    refine v_goi (rn_V C gcX12_110 (RX12, TX12, 33) rfl rfl (by decide) hkd (mX12_many h1) ⟨rfl, rfl⟩ rfl ⟨Nat.le_of_ble_eq_true rfl, Nat.le_of_ble_eq_true rfl⟩ (rest := [.int (0 : Int32), .int x2]) rfl (Nat.le_of_ble_eq_true rfl) ⟨Nat.le_of_ble_eq_true rfl, Nat.le_of_ble_eq_true rfl⟩ dX12_insert_13) ?_
    obtain ⟨y3, h1, h⟩ := ob_some h
    refine v_goi (rn_S C gcX12_94 (mX12_in h1) ⟨rfl, rfl⟩ rfl ⟨Nat.le_of_ble_eq_true rfl, Nat.le_of_ble_eq_true rfl⟩ (rest := []) rfl (Nat.le_of_ble_eq_true rfl) ⟨Nat.le_of_ble_eq_true rfl, Nat.le_of_ble_eq_true rfl⟩ dX12_insert_16) ?_
    refine v_ifeq C 61 dX12_insert_19 (by decide) h (fun _ h => ?_) (fun _ h => ?_)
    · refine v_bipush C (-3 : Int32) dX12_insert_61 (by decide) ?_
      exact v_iret C dX12_insert_63 (Prod.mk.inj (Option.some.inj h)).2 (Prod.mk.inj (Option.some.inj h)).1
    · refine v_iload_n C 3 dX12_insert_22 rfl rfl ?_
      refine v_iconst C (1 : Int32) dX12_insert_23 (by decide) ?_
      refine v_bipush C (15 : Int32) dX12_insert_24 (by decide) ?_
      obtain ⟨y4, h1, h⟩ := ob_some h
      refine v_goi (rn_S C gcX12_94 (mX12_in h1) ⟨rfl, rfl⟩ rfl ⟨Nat.le_of_ble_eq_true rfl, Nat.le_of_ble_eq_true rfl⟩ (rest := []) rfl (Nat.le_of_ble_eq_true rfl) ⟨Nat.le_of_ble_eq_true rfl, Nat.le_of_ble_eq_true rfl⟩ dX12_insert_26) ?_
      refine v_ifeq C 61 dX12_insert_29 (by decide) h (fun _ h => ?_) (fun _ h => ?_)
      · refine v_bipush C (-3 : Int32) dX12_insert_61 (by decide) ?_
        exact v_iret C dX12_insert_63 (Prod.mk.inj (Option.some.inj h)).2 (Prod.mk.inj (Option.some.inj h)).1
      · refine v_aload_n C 0 dX12_insert_32 rfl rfl ?_
        refine v_iload C 4 dX12_insert_33 rfl ?_
        obtain ⟨y5, h1, h⟩ := ob_some h
        obtain ⟨hkd, h1⟩ := kd_some h1
        refine v_goi (rn_V C gcX12_122 (RX12, TX12, 33) rfl rfl (by decide) hkd (mX12_noHeader h1) ⟨rfl, rfl⟩ rfl ⟨Nat.le_of_ble_eq_true rfl, Nat.le_of_ble_eq_true rfl⟩ (rest := []) rfl (Nat.le_of_ble_eq_true rfl) ⟨Nat.le_of_ble_eq_true rfl, Nat.le_of_ble_eq_true rfl⟩ dX12_insert_35) ?_
        refine v_ifne C 61 dX12_insert_38 (by decide) h (fun _ h => ?_) (fun _ h => ?_)
        · refine v_bipush C (-3 : Int32) dX12_insert_61 (by decide) ?_
          exact v_iret C dX12_insert_63 (Prod.mk.inj (Option.some.inj h)).2 (Prod.mk.inj (Option.some.inj h)).1
        · refine v_aload_n C 0 dX12_insert_41 rfl rfl ?_
          refine v_iload C 5 dX12_insert_42 rfl ?_
          obtain ⟨y6, h1, h⟩ := ob_some h
          obtain ⟨hkd, h1⟩ := kd_some h1
          refine v_goi (rn_V C gcX12_122 (RX12, TX12, 33) rfl rfl (by decide) hkd (mX12_noHeader h1) ⟨rfl, rfl⟩ rfl ⟨Nat.le_of_ble_eq_true rfl, Nat.le_of_ble_eq_true rfl⟩ (rest := []) rfl (Nat.le_of_ble_eq_true rfl) ⟨Nat.le_of_ble_eq_true rfl, Nat.le_of_ble_eq_true rfl⟩ dX12_insert_44) ?_
          refine v_ifne C 61 dX12_insert_47 (by decide) h (fun _ h => ?_) (fun _ h => ?_)
          · refine v_bipush C (-3 : Int32) dX12_insert_61 (by decide) ?_
            exact v_iret C dX12_insert_63 (Prod.mk.inj (Option.some.inj h)).2 (Prod.mk.inj (Option.some.inj h)).1
          · refine v_iload C 6 dX12_insert_50 rfl ?_
            refine v_iconst C (0 : Int32) dX12_insert_52 (by decide) ?_
            refine v_bipush C (15 : Int32) dX12_insert_53 (by decide) ?_
            obtain ⟨y7, h1, h⟩ := ob_some h
            refine v_goi (rn_S C gcX12_94 (mX12_in h1) ⟨rfl, rfl⟩ rfl ⟨Nat.le_of_ble_eq_true rfl, Nat.le_of_ble_eq_true rfl⟩ (rest := []) rfl (Nat.le_of_ble_eq_true rfl) ⟨Nat.le_of_ble_eq_true rfl, Nat.le_of_ble_eq_true rfl⟩ dX12_insert_55) ?_
            refine v_ifne C 64 dX12_insert_58 (by decide) h (fun _ h => ?_) (fun _ h => ?_)
            · refine v_aload_n C 0 dX12_insert_64 rfl rfl ?_
              refine v_iload_n C 1 dX12_insert_65 rfl rfl ?_
              obtain ⟨y8, h1, h⟩ := ob_some h
              obtain ⟨hkd, h1⟩ := kd_some h1
              refine v_goi (rn_V C gcX12_110 (RX12, TX12, 33) rfl rfl (by decide) hkd (mX12_many h1) ⟨rfl, rfl⟩ rfl ⟨Nat.le_of_ble_eq_true rfl, Nat.le_of_ble_eq_true rfl⟩ (rest := []) rfl (Nat.le_of_ble_eq_true rfl) ⟨Nat.le_of_ble_eq_true rfl, Nat.le_of_ble_eq_true rfl⟩ dX12_insert_66) ?_
              refine v_bipush C (6 : Int32) dX12_insert_69 (by decide) ?_
              refine v_icmpne C 77 dX12_insert_71 (by decide) h (fun _ h => ?_) (fun _ h => ?_)
              · refine v_aload_n C 0 dX12_insert_77 rfl rfl ?_
                obtain ⟨u9, h1, h⟩ := ob_some h
                obtain ⟨hkd, h1⟩ := kd_some h1
                refine v_gov (rn_V C gcX12_125 (RX12, TX12, 33) rfl rfl (by decide) hkd (mX12_keep h1) ⟨rfl, rfl⟩ rfl ⟨Nat.le_of_ble_eq_true rfl, Nat.le_of_ble_eq_true rfl⟩ (rest := []) rfl (Nat.le_of_ble_eq_true rfl) ⟨Nat.le_of_ble_eq_true rfl, Nat.le_of_ble_eq_true rfl⟩ dX12_insert_78) ?_
                refine v_aload_n C 0 dX12_insert_81 rfl rfl ?_
                refine v_iload_n C 1 dX12_insert_82 rfl rfl ?_
                refine v_iload_n C 2 dX12_insert_83 rfl rfl ?_
                obtain ⟨u10, h1, h⟩ := ob_some h
                obtain ⟨hkd, h1⟩ := kd_some h1
                refine v_gov (rn_V C gcX12_128 (RX12, TX12, 33) rfl rfl (by decide) hkd (mX12_open h1) ⟨rfl, rfl⟩ rfl ⟨Nat.le_of_ble_eq_true rfl, Nat.le_of_ble_eq_true rfl⟩ (rest := []) rfl (Nat.le_of_ble_eq_true rfl) ⟨Nat.le_of_ble_eq_true rfl, Nat.le_of_ble_eq_true rfl⟩ dX12_insert_84) ?_
                refine v_aload_n C 0 dX12_insert_87 rfl rfl ?_
                refine v_iload_n C 1 dX12_insert_88 rfl rfl ?_
                refine v_iload_n C 2 dX12_insert_89 rfl rfl ?_
                refine v_iconst C (0 : Int32) dX12_insert_90 (by decide) ?_
                refine v_iload_n C 3 dX12_insert_91 rfl rfl ?_
                obtain ⟨u11, h1, h⟩ := ob_some h
                obtain ⟨hkd, h1⟩ := kd_some h1
                refine v_gov (rn_V C gcX12_118 (RX12, TX12, 33) rfl rfl (by decide) hkd (mX12_put h1) ⟨rfl, rfl⟩ rfl ⟨Nat.le_of_ble_eq_true rfl, Nat.le_of_ble_eq_true rfl⟩ (rest := []) rfl (Nat.le_of_ble_eq_true rfl) ⟨Nat.le_of_ble_eq_true rfl, Nat.le_of_ble_eq_true rfl⟩ dX12_insert_92) ?_
                refine v_aload_n C 0 dX12_insert_95 rfl rfl ?_
                refine v_iload_n C 1 dX12_insert_96 rfl rfl ?_
                refine v_iload_n C 2 dX12_insert_97 rfl rfl ?_
                refine v_iconst C (1 : Int32) dX12_insert_98 (by decide) ?_
                refine v_iload C 4 dX12_insert_99 rfl ?_
                obtain ⟨u12, h1, h⟩ := ob_some h
                obtain ⟨hkd, h1⟩ := kd_some h1
                refine v_gov (rn_V C gcX12_118 (RX12, TX12, 33) rfl rfl (by decide) hkd (mX12_put h1) ⟨rfl, rfl⟩ rfl ⟨Nat.le_of_ble_eq_true rfl, Nat.le_of_ble_eq_true rfl⟩ (rest := []) rfl (Nat.le_of_ble_eq_true rfl) ⟨Nat.le_of_ble_eq_true rfl, Nat.le_of_ble_eq_true rfl⟩ dX12_insert_101) ?_
                refine v_aload_n C 0 dX12_insert_104 rfl rfl ?_
                refine v_iload_n C 1 dX12_insert_105 rfl rfl ?_
                refine v_iload_n C 2 dX12_insert_106 rfl rfl ?_
                refine v_iconst C (2 : Int32) dX12_insert_107 (by decide) ?_
                refine v_iload C 5 dX12_insert_108 rfl ?_
                refine v_iload C 4 dX12_insert_110 rfl ?_
                refine v_iand C dX12_insert_112 ?_
                obtain ⟨u13, h1, h⟩ := ob_some h
                obtain ⟨hkd, h1⟩ := kd_some h1
                refine v_gov (rn_V C gcX12_118 (RX12, TX12, 33) rfl rfl (by decide) hkd (mX12_put h1) ⟨rfl, rfl⟩ rfl ⟨Nat.le_of_ble_eq_true rfl, Nat.le_of_ble_eq_true rfl⟩ (rest := []) rfl (Nat.le_of_ble_eq_true rfl) ⟨Nat.le_of_ble_eq_true rfl, Nat.le_of_ble_eq_true rfl⟩ dX12_insert_113) ?_
                refine v_aload_n C 0 dX12_insert_116 rfl rfl ?_
                refine v_iload_n C 1 dX12_insert_117 rfl rfl ?_
                refine v_iload_n C 2 dX12_insert_118 rfl rfl ?_
                refine v_iconst C (3 : Int32) dX12_insert_119 (by decide) ?_
                refine v_iload C 6 dX12_insert_120 rfl ?_
                obtain ⟨u14, h1, h⟩ := ob_some h
                obtain ⟨hkd, h1⟩ := kd_some h1
                refine v_gov (rn_V C gcX12_118 (RX12, TX12, 33) rfl rfl (by decide) hkd (mX12_put h1) ⟨rfl, rfl⟩ rfl ⟨Nat.le_of_ble_eq_true rfl, Nat.le_of_ble_eq_true rfl⟩ (rest := []) rfl (Nat.le_of_ble_eq_true rfl) ⟨Nat.le_of_ble_eq_true rfl, Nat.le_of_ble_eq_true rfl⟩ dX12_insert_122) ?_
                refine v_aload_n C 0 dX12_insert_125 rfl rfl ?_
                refine v_iload_n C 1 dX12_insert_126 rfl rfl ?_
                refine v_iload_n C 2 dX12_insert_127 rfl rfl ?_
                refine v_iconst C (4 : Int32) dX12_insert_128 (by decide) ?_
                refine v_iconst C (0 : Int32) dX12_insert_129 (by decide) ?_
                obtain ⟨u15, h1, h⟩ := ob_some h
                obtain ⟨hkd, h1⟩ := kd_some h1
                refine v_gov (rn_V C gcX12_118 (RX12, TX12, 33) rfl rfl (by decide) hkd (mX12_put h1) ⟨rfl, rfl⟩ rfl ⟨Nat.le_of_ble_eq_true rfl, Nat.le_of_ble_eq_true rfl⟩ (rest := []) rfl (Nat.le_of_ble_eq_true rfl) ⟨Nat.le_of_ble_eq_true rfl, Nat.le_of_ble_eq_true rfl⟩ dX12_insert_130) ?_
                refine v_aload_n C 0 dX12_insert_133 rfl rfl ?_
                refine v_iload_n C 1 dX12_insert_134 rfl rfl ?_
                refine v_iload_n C 2 dX12_insert_135 rfl rfl ?_
                refine v_iconst C (5 : Int32) dX12_insert_136 (by decide) ?_
                refine v_iconst C (0 : Int32) dX12_insert_137 (by decide) ?_
                obtain ⟨u16, h1, h⟩ := ob_some h
                obtain ⟨hkd, h1⟩ := kd_some h1
                refine v_gov (rn_V C gcX12_118 (RX12, TX12, 33) rfl rfl (by decide) hkd (mX12_put h1) ⟨rfl, rfl⟩ rfl ⟨Nat.le_of_ble_eq_true rfl, Nat.le_of_ble_eq_true rfl⟩ (rest := []) rfl (Nat.le_of_ble_eq_true rfl) ⟨Nat.le_of_ble_eq_true rfl, Nat.le_of_ble_eq_true rfl⟩ dX12_insert_138) ?_
                refine v_aload_n C 0 dX12_insert_141 rfl rfl ?_
                refine v_iload_n C 1 dX12_insert_142 rfl rfl ?_
                refine v_iload_n C 2 dX12_insert_143 rfl rfl ?_
                refine v_bipush C (6 : Int32) dX12_insert_144 (by decide) ?_
                refine v_iconst C (1 : Int32) dX12_insert_146 (by decide) ?_
                obtain ⟨u17, h1, h⟩ := ob_some h
                obtain ⟨hkd, h1⟩ := kd_some h1
                refine v_gov (rn_V C gcX12_118 (RX12, TX12, 33) rfl rfl (by decide) hkd (mX12_put h1) ⟨rfl, rfl⟩ rfl ⟨Nat.le_of_ble_eq_true rfl, Nat.le_of_ble_eq_true rfl⟩ (rest := []) rfl (Nat.le_of_ble_eq_true rfl) ⟨Nat.le_of_ble_eq_true rfl, Nat.le_of_ble_eq_true rfl⟩ dX12_insert_147) ?_
                refine v_aload_n C 0 dX12_insert_150 rfl rfl ?_
                refine v_iload_n C 1 dX12_insert_151 rfl rfl ?_
                obtain ⟨y18, h1, h⟩ := ob_some h
                obtain ⟨hkd, h1⟩ := kd_some h1
                refine v_goi (rn_V C gcX12_110 (RX12, TX12, 33) rfl rfl (by decide) hkd (mX12_many h1) ⟨rfl, rfl⟩ rfl ⟨Nat.le_of_ble_eq_true rfl, Nat.le_of_ble_eq_true rfl⟩ (rest := []) rfl (Nat.le_of_ble_eq_true rfl) ⟨Nat.le_of_ble_eq_true rfl, Nat.le_of_ble_eq_true rfl⟩ dX12_insert_152) ?_
                exact v_iret C dX12_insert_155 (Prod.mk.inj (Option.some.inj h)).2 (Prod.mk.inj (Option.some.inj h)).1
              · refine v_bipush C (-5 : Int32) dX12_insert_74 (by decide) ?_
                exact v_iret C dX12_insert_76 (Prod.mk.inj (Option.some.inj h)).2 (Prod.mk.inj (Option.some.inj h)).1
            · refine v_bipush C (-3 : Int32) dX12_insert_61 (by decide) ?_
              exact v_iret C dX12_insert_63 (Prod.mk.inj (Option.some.inj h)).2 (Prod.mk.inj (Option.some.inj h)).1
  · refine v_iconst C (-1 : Int32) dX12_insert_7 (by decide) ?_
    exact v_iret C dX12_insert_8 (Prod.mk.inj (Option.some.inj h)).2 (Prod.mk.inj (Option.some.inj h)).1
set_option maxRecDepth 100000 in
set_option maxHeartbeats 4000000 in
theorem mX12_insertDrop {l : Launch} {D : UD} {bs : Nat} {a0 : Nat} {x1 : Int32} {x2 : Int32} {x3 : Int32} {x4 : Int32} {x5 : Int32} {u0 : UH} {r : Int32} {v : UH} (h : fX12_insertDrop a0 x1 x2 x3 x4 x5 u0 = some (r, v)) : Met l yX12_insertDrop (wz yX12_insertDrop cX12_insertDrop 6 (some .int)) rmX12_insertDrop (va_Pc [.ref (bs + a0), .int x1, .int x2, .int x3, .int x4, .int x5] (uIn D bs u0)) (uQi D bs u0 v r) 0 0 (uA bs u0) := by
  refine uMet (by decide) (Nat.le_of_ble_eq_true rfl) ?_
  intro X tw hX C hin
  have C : uCx X D bs tw cX12_insertDrop 6 RX12 (some .int) := C
  have hin : X.2.2.2.2.2.2.2.1.name = "insertDrop" := hin
  refine v_L [(0, .ref (bs + a0)), (1, .int x1), (2, .int x2), (3, .int x3), (4, .int x4), (5, .int x5)] rfl ?_
  unfold fX12_insertDrop at h
  refine v_aload_n C 0 dX12_insertDrop_0 rfl rfl ?_
  refine v_iload_n C 1 dX12_insertDrop_1 rfl rfl ?_
  refine v_iload_n C 2 dX12_insertDrop_2 rfl rfl ?_
  refine v_iload_n C 3 dX12_insertDrop_3 rfl rfl ?_
  refine v_iload C 4 dX12_insertDrop_4 rfl ?_
  refine v_iload C 5 dX12_insertDrop_6 rfl ?_
  refine v_iconst C (0 : Int32) dX12_insertDrop_8 (by decide) ?_
  obtain ⟨y1, u2, h1, h⟩ := ob2_some h
  obtain ⟨hkd, h1⟩ := kd_some h1
  refine v_goi (rn_V C gcX12_132 (RX12, TX12, 33) rfl rfl (by decide) hkd (mX12_insert h1) ⟨rfl, rfl⟩ rfl ⟨Nat.le_of_ble_eq_true rfl, Nat.le_of_ble_eq_true rfl⟩ (rest := []) rfl (Nat.le_of_ble_eq_true rfl) ⟨Nat.le_of_ble_eq_true rfl, Nat.le_of_ble_eq_true rfl⟩ dX12_insertDrop_9) ?_
  exact v_iret C dX12_insertDrop_12 (Prod.mk.inj (Option.some.inj h)).2 (Prod.mk.inj (Option.some.inj h)).1
set_option maxRecDepth 100000 in
set_option maxHeartbeats 4000000 in
theorem wX12_insertForward_20 {X : UX} {D : UD} {bs tw : Nat} {u0 : UH} {r : Int32} {v : UH} (C : uCx X D bs tw cX12_insertForward 7 RX12 (some .int)) (hin : X.2.2.2.2.2.2.2.1.name = "insertForward") {s0 : Int32} {s1 : Int32} {s2 : Int32} {s3 : Int32} {s4 : Int32} {s5 : Int32} {s6 : Nat} {u : UH} (h : fX12_insertForward_20 s0 s1 s2 s3 s4 s5 s6 u = some (r, v)) : VV X D bs u0 rmX12_insertForward 7 0 0 (MQ X.2.2.2.2.2.2.1 (uQi D bs u0 v r) X.2.2.2.2.2.1 X.2.2.2.1 0 0 (uA bs u0)) u 20 [] [.int s0, .int s1, .int s2, .int s3, .int s4, .int s5, .ref (bs + s6)] := by
  unfold fX12_insertForward_20 at h
  obtain ⟨y1, u2, h1, h⟩ := ob2_some h
  obtain ⟨hkd, h1⟩ := kd_some h1
  refine v_goi (rn_V C gcX12_132 (RX12, TX12, 33) rfl rfl (by decide) hkd (mX12_insert h1) ⟨rfl, rfl⟩ rfl ⟨Nat.le_of_ble_eq_true rfl, Nat.le_of_ble_eq_true rfl⟩ (rest := []) rfl (Nat.le_of_ble_eq_true rfl) ⟨Nat.le_of_ble_eq_true rfl, Nat.le_of_ble_eq_true rfl⟩ dX12_insertForward_20) ?_
  exact v_iret C dX12_insertForward_23 (Prod.mk.inj (Option.some.inj h)).2 (Prod.mk.inj (Option.some.inj h)).1
set_option maxRecDepth 100000 in
set_option maxHeartbeats 4000000 in
theorem mX12_insertForward {l : Launch} {D : UD} {bs : Nat} {a0 : Nat} {x1 : Int32} {x2 : Int32} {x3 : Int32} {x4 : Int32} {x5 : Int32} {x6 : Int32} {u0 : UH} {r : Int32} {v : UH} (h : fX12_insertForward a0 x1 x2 x3 x4 x5 x6 u0 = some (r, v)) : Met l yX12_insertForward (wz yX12_insertForward cX12_insertForward 7 (some .int)) rmX12_insertForward (va_Pc [.ref (bs + a0), .int x1, .int x2, .int x3, .int x4, .int x5, .int x6] (uIn D bs u0)) (uQi D bs u0 v r) 0 0 (uA bs u0) := by
  refine uMet (by decide) (Nat.le_of_ble_eq_true rfl) ?_
  intro X tw hX C hin
  have C : uCx X D bs tw cX12_insertForward 7 RX12 (some .int) := C
  have hin : X.2.2.2.2.2.2.2.1.name = "insertForward" := hin
  refine v_L [(0, .ref (bs + a0)), (1, .int x1), (2, .int x2), (3, .int x3), (4, .int x4), (5, .int x5), (6, .int x6)] rfl ?_
  unfold fX12_insertForward at h
  refine v_aload_n C 0 dX12_insertForward_0 rfl rfl ?_
  refine v_iload_n C 1 dX12_insertForward_1 rfl rfl ?_
  refine v_iload_n C 2 dX12_insertForward_2 rfl rfl ?_
  refine v_iload_n C 3 dX12_insertForward_3 rfl rfl ?_
  refine v_iload C 4 dX12_insertForward_4 rfl ?_
  refine v_iload C 5 dX12_insertForward_6 rfl ?_
  refine v_iload C 6 dX12_insertForward_8 rfl ?_
  refine v_ifne C 18 dX12_insertForward_10 (by decide) h (fun _ h => ?_) (fun _ h => ?_)
  · refine v_iload C 6 dX12_insertForward_18 rfl ?_
    refine v_sub [] [] rfl ?_
    exact wX12_insertForward_20 C hin h
  · refine v_bipush C (99 : Int32) dX12_insertForward_13 (by decide) ?_
    refine v_goto C 20 dX12_insertForward_15 (by decide) ?_
    refine v_sub [] [] rfl ?_
    exact wX12_insertForward_20 C hin h
set_option maxRecDepth 100000 in
set_option maxHeartbeats 4000000 in
theorem mX12_ruleBarred {l : Launch} {D : UD} {bs : Nat} {a0 : Nat} {x1 : Int32} {x2 : Int32} {u0 : UH} {r : Int32} (h : fX12_ruleBarred a0 x1 x2 u0 = some r) : Met l yX12_ruleBarred (wz yX12_ruleBarred cX12_ruleBarred 3 (some .int)) rmX12_ruleBarred (va_Pc [.ref (bs + a0), .int x1, .int x2] (uIn D bs u0)) (uQi D bs u0 u0 r) 0 0 (uA bs u0) := by
  refine uMet (by decide) (Nat.le_of_ble_eq_true rfl) ?_
  intro X tw hX C hin
  have C : uCx X D bs tw cX12_ruleBarred 3 RX12 (some .int) := C
  have hin : X.2.2.2.2.2.2.2.1.name = "ruleBarred" := hin
  refine v_L [(0, .ref (bs + a0)), (1, .int x1), (2, .int x2)] rfl ?_
  unfold fX12_ruleBarred at h
  refine v_iload_n C 1 dX12_ruleBarred_0 rfl rfl ?_
  obtain ⟨y1, h1, h⟩ := ob_some h
  refine v_goi (rn_S C gcX12_102 (mX12_noBox h1) ⟨rfl, rfl⟩ rfl ⟨Nat.le_of_ble_eq_true rfl, Nat.le_of_ble_eq_true rfl⟩ (rest := []) rfl (Nat.le_of_ble_eq_true rfl) ⟨Nat.le_of_ble_eq_true rfl, Nat.le_of_ble_eq_true rfl⟩ dX12_ruleBarred_1) ?_
  refine v_ifeq C 11 dX12_ruleBarred_4 (by decide) h (fun _ h => ?_) (fun _ h => ?_)
  · refine v_aload_n C 0 dX12_ruleBarred_11 rfl rfl ?_
    refine v_iload_n C 1 dX12_ruleBarred_12 rfl rfl ?_
    refine v_iload_n C 2 dX12_ruleBarred_13 rfl rfl ?_
    obtain ⟨y2, h1, h⟩ := ob_some h
    obtain ⟨hkd, h1⟩ := kd_some h1
    refine v_goi (rn_V C gcX12_136 (RX12, TX12, 33) rfl rfl (by decide) hkd (mX12_noRule h1) ⟨rfl, rfl⟩ rfl ⟨Nat.le_of_ble_eq_true rfl, Nat.le_of_ble_eq_true rfl⟩ (rest := []) rfl (Nat.le_of_ble_eq_true rfl) ⟨Nat.le_of_ble_eq_true rfl, Nat.le_of_ble_eq_true rfl⟩ dX12_ruleBarred_14) ?_
    refine v_ifeq C 25 dX12_ruleBarred_17 (by decide) h (fun _ h => ?_) (fun _ h => ?_)
    · refine v_iconst C (0 : Int32) dX12_ruleBarred_25 (by decide) ?_
      exact v_iret C dX12_ruleBarred_26 rfl (Option.some.inj h)
    · refine v_bipush C (-2 : Int32) dX12_ruleBarred_20 (by decide) ?_
      refine v_goto C 26 dX12_ruleBarred_22 (by decide) ?_
      exact v_iret C dX12_ruleBarred_26 rfl (Option.some.inj h)
  · refine v_iconst C (-1 : Int32) dX12_ruleBarred_7 (by decide) ?_
    refine v_goto C 26 dX12_ruleBarred_8 (by decide) ?_
    exact v_iret C dX12_ruleBarred_26 rfl (Option.some.inj h)
set_option maxRecDepth 100000 in
set_option maxHeartbeats 4000000 in
theorem wX12_setRewriting_83 {X : UX} {D : UD} {bs tw : Nat} {u0 : UH} {r : Int32} {v : UH} (C : uCx X D bs tw cX12_setRewriting 7 RX12 (some .int)) (hin : X.2.2.2.2.2.2.2.1.name = "setRewriting") {a0 : Nat} {x1 : Int32} {x2 : Int32} {x3 : Int32} {x4 : Int32} {s0 : Int32} {u : UH} (h : fX12_setRewriting_83 a0 x1 x2 x3 x4 s0 u = some (r, v)) : VV X D bs u0 rmX12_setRewriting 7 0 0 (MQ X.2.2.2.2.2.2.1 (uQi D bs u0 v r) X.2.2.2.2.2.1 X.2.2.2.1 0 0 (uA bs u0)) u 83 [(0, .ref (bs + a0)), (1, .int x1), (2, .int x2), (3, .int x3), (4, .int x4)] [.int s0] := by
  unfold fX12_setRewriting_83 at h
  refine v_istore C [(6, .int s0), (0, .ref (bs + a0)), (1, .int x1), (2, .int x2), (3, .int x3), (4, .int x4)] dX12_setRewriting_83 (by decide) rfl ?_
  refine v_aload_n C 1 dX12_setRewriting_85 rfl rfl ?_
  refine v_iload_n C 2 dX12_setRewriting_86 rfl rfl ?_
  refine v_iload_n C 3 dX12_setRewriting_87 rfl rfl ?_
  refine v_iconst C (4 : Int32) dX12_setRewriting_88 (by decide) ?_
  refine v_iload_n C 4 dX12_setRewriting_89 rfl rfl ?_
  obtain ⟨u7, h1, h⟩ := ob_some h
  obtain ⟨hkd, h1⟩ := kd_some h1
  refine v_gov (rn_V C gcX12_118 (RX12, TX12, 33) rfl rfl (by decide) hkd (mX12_put h1) ⟨rfl, rfl⟩ rfl ⟨Nat.le_of_ble_eq_true rfl, Nat.le_of_ble_eq_true rfl⟩ (rest := []) rfl (Nat.le_of_ble_eq_true rfl) ⟨Nat.le_of_ble_eq_true rfl, Nat.le_of_ble_eq_true rfl⟩ dX12_setRewriting_90) ?_
  refine v_aload_n C 1 dX12_setRewriting_93 rfl rfl ?_
  refine v_iload_n C 2 dX12_setRewriting_94 rfl rfl ?_
  refine v_iload_n C 3 dX12_setRewriting_95 rfl rfl ?_
  refine v_iconst C (5 : Int32) dX12_setRewriting_96 (by decide) ?_
  refine v_iload C 5 dX12_setRewriting_97 rfl ?_
  refine v_iload_n C 4 dX12_setRewriting_99 rfl rfl ?_
  refine v_iand C dX12_setRewriting_100 ?_
  obtain ⟨u8, h1, h⟩ := ob_some h
  obtain ⟨hkd, h1⟩ := kd_some h1
  refine v_gov (rn_V C gcX12_118 (RX12, TX12, 33) rfl rfl (by decide) hkd (mX12_put h1) ⟨rfl, rfl⟩ rfl ⟨Nat.le_of_ble_eq_true rfl, Nat.le_of_ble_eq_true rfl⟩ (rest := []) rfl (Nat.le_of_ble_eq_true rfl) ⟨Nat.le_of_ble_eq_true rfl, Nat.le_of_ble_eq_true rfl⟩ dX12_setRewriting_101) ?_
  refine v_iload C 0 dX12_setRewriting_104 rfl ?_
  exact v_iret C dX12_setRewriting_106 (Prod.mk.inj (Option.some.inj h)).2 (Prod.mk.inj (Option.some.inj h)).1
set_option maxRecDepth 100000 in
set_option maxHeartbeats 4000000 in
theorem wX12_setRewriting_78 {X : UX} {D : UD} {bs tw : Nat} {u0 : UH} {r : Int32} {v : UH} (C : uCx X D bs tw cX12_setRewriting 7 RX12 (some .int)) (hin : X.2.2.2.2.2.2.2.1.name = "setRewriting") {a0 : Nat} {x1 : Int32} {x2 : Int32} {x3 : Int32} {x4 : Int32} {u : UH} (h : fX12_setRewriting_78 a0 x1 x2 x3 x4 u = some (r, v)) : VV X D bs u0 rmX12_setRewriting 7 0 0 (MQ X.2.2.2.2.2.2.1 (uQi D bs u0 v r) X.2.2.2.2.2.1 X.2.2.2.1 0 0 (uA bs u0)) u 78 [(0, .ref (bs + a0)), (1, .int x1), (2, .int x2), (3, .int x3), (4, .int x4)] [] := by
  unfold fX12_setRewriting_78 at h
  refine v_iconst C (1 : Int32) dX12_setRewriting_78 (by decide) ?_
  refine v_goto C 83 dX12_setRewriting_79 (by decide) ?_
  refine v_sub [(0, .ref (bs + a0)), (1, .int x1), (2, .int x2), (3, .int x3), (4, .int x4)] [0, 1, 2, 3, 4] rfl ?_
  exact wX12_setRewriting_83 C hin h
set_option maxRecDepth 100000 in
set_option maxHeartbeats 4000000 in
theorem mX12_setRewriting {l : Launch} {D : UD} {bs : Nat} {a0 : Nat} {x1 : Int32} {x2 : Int32} {x3 : Int32} {x4 : Int32} {u0 : UH} {r : Int32} {v : UH} (h : fX12_setRewriting a0 x1 x2 x3 x4 u0 = some (r, v)) : Met l yX12_setRewriting (wz yX12_setRewriting cX12_setRewriting 7 (some .int)) rmX12_setRewriting (va_Pc [.ref (bs + a0), .int x1, .int x2, .int x3, .int x4] (uIn D bs u0)) (uQi D bs u0 v r) 0 0 (uA bs u0) := by
  refine uMet (by decide) (Nat.le_of_ble_eq_true rfl) ?_
  intro X tw hX C hin
  have C : uCx X D bs tw cX12_setRewriting 7 RX12 (some .int) := C
  have hin : X.2.2.2.2.2.2.2.1.name = "setRewriting" := hin
  refine v_L [(0, .ref (bs + a0)), (1, .int x1), (2, .int x2), (3, .int x3), (4, .int x4)] rfl ?_
  unfold fX12_setRewriting at h
  refine v_aload_n C 0 dX12_setRewriting_0 rfl rfl ?_
  refine v_iload_n C 1 dX12_setRewriting_1 rfl rfl ?_
  refine v_iload_n C 2 dX12_setRewriting_2 rfl rfl ?_
  obtain ⟨y1, h1, h⟩ := ob_some h
  obtain ⟨hkd, h1⟩ := kd_some h1
  refine v_goi (rn_V C gcX12_139 (RX12, TX12, 33) rfl rfl (by decide) hkd (mX12_ruleBarred h1) ⟨rfl, rfl⟩ rfl ⟨Nat.le_of_ble_eq_true rfl, Nat.le_of_ble_eq_true rfl⟩ (rest := []) rfl (Nat.le_of_ble_eq_true rfl) ⟨Nat.le_of_ble_eq_true rfl, Nat.le_of_ble_eq_true rfl⟩ dX12_setRewriting_3) ?_
  refine v_istore C [(5, .int y1), (0, .ref (bs + a0)), (1, .int x1), (2, .int x2), (3, .int x3), (4, .int x4)] dX12_setRewriting_6 (by decide) rfl ?_
  refine v_iload C 0 dX12_setRewriting_8 rfl ?_
  refine v_ifge C 16 dX12_setRewriting_10 (by decide) h (fun _ h => ?_) (fun _ h => ?_)
  · refine v_aload_n C 1 dX12_setRewriting_16 rfl rfl ?_
    refine v_iload_n C 4 dX12_setRewriting_17 rfl rfl ?_
    obtain ⟨y2, h1, h⟩ := ob_some h
    obtain ⟨hkd, h1⟩ := kd_some h1
    refine v_goi (rn_V C gcX12_122 (RX12, TX12, 33) rfl rfl (by decide) hkd (mX12_noHeader h1) ⟨rfl, rfl⟩ rfl ⟨Nat.le_of_ble_eq_true rfl, Nat.le_of_ble_eq_true rfl⟩ (rest := []) rfl (Nat.le_of_ble_eq_true rfl) ⟨Nat.le_of_ble_eq_true rfl, Nat.le_of_ble_eq_true rfl⟩ dX12_setRewriting_18) ?_
    refine v_ifne C 33 dX12_setRewriting_21 (by decide) h (fun _ h => ?_) (fun _ h => ?_)
    · refine v_bipush C (-3 : Int32) dX12_setRewriting_33 (by decide) ?_
      exact v_iret C dX12_setRewriting_35 (Prod.mk.inj (Option.some.inj h)).2 (Prod.mk.inj (Option.some.inj h)).1
    · refine v_aload_n C 1 dX12_setRewriting_24 rfl rfl ?_
      refine v_iload C 5 dX12_setRewriting_25 rfl ?_
      obtain ⟨y3, h1, h⟩ := ob_some h
      obtain ⟨hkd, h1⟩ := kd_some h1
      refine v_goi (rn_V C gcX12_122 (RX12, TX12, 33) rfl rfl (by decide) hkd (mX12_noHeader h1) ⟨rfl, rfl⟩ rfl ⟨Nat.le_of_ble_eq_true rfl, Nat.le_of_ble_eq_true rfl⟩ (rest := []) rfl (Nat.le_of_ble_eq_true rfl) ⟨Nat.le_of_ble_eq_true rfl, Nat.le_of_ble_eq_true rfl⟩ dX12_setRewriting_27) ?_
      refine v_ifeq C 36 dX12_setRewriting_30 (by decide) h (fun _ h => ?_) (fun _ h => ?_)
      · refine v_aload_n C 1 dX12_setRewriting_36 rfl rfl ?_
        refine v_iload_n C 2 dX12_setRewriting_37 rfl rfl ?_
        refine v_iload_n C 3 dX12_setRewriting_38 rfl rfl ?_
        refine v_iconst C (3 : Int32) dX12_setRewriting_39 (by decide) ?_
        obtain ⟨y4, h1, h⟩ := ob_some h
        obtain ⟨hkd, h1⟩ := kd_some h1
        refine v_goi (rn_V C gcX12_114 (RX12, TX12, 33) rfl rfl (by decide) hkd (mX12_of h1) ⟨rfl, rfl⟩ rfl ⟨Nat.le_of_ble_eq_true rfl, Nat.le_of_ble_eq_true rfl⟩ (rest := []) rfl (Nat.le_of_ble_eq_true rfl) ⟨Nat.le_of_ble_eq_true rfl, Nat.le_of_ble_eq_true rfl⟩ dX12_setRewriting_40) ?_
        refine v_ifne C 49 dX12_setRewriting_43 (by decide) h (fun _ h => ?_) (fun _ h => ?_)
        · refine v_aload_n C 1 dX12_setRewriting_49 rfl rfl ?_
          obtain ⟨u5, h1, h⟩ := ob_some h
          obtain ⟨hkd, h1⟩ := kd_some h1
          refine v_gov (rn_V C gcX12_125 (RX12, TX12, 33) rfl rfl (by decide) hkd (mX12_keep h1) ⟨rfl, rfl⟩ rfl ⟨Nat.le_of_ble_eq_true rfl, Nat.le_of_ble_eq_true rfl⟩ (rest := []) rfl (Nat.le_of_ble_eq_true rfl) ⟨Nat.le_of_ble_eq_true rfl, Nat.le_of_ble_eq_true rfl⟩ dX12_setRewriting_50) ?_
          refine v_aload_n C 1 dX12_setRewriting_53 rfl rfl ?_
          refine v_iload_n C 2 dX12_setRewriting_54 rfl rfl ?_
          refine v_iload_n C 3 dX12_setRewriting_55 rfl rfl ?_
          refine v_iconst C (4 : Int32) dX12_setRewriting_56 (by decide) ?_
          obtain ⟨y6, h1, h⟩ := ob_some h
          obtain ⟨hkd, h1⟩ := kd_some h1
          refine v_goi (rn_V C gcX12_114 (RX12, TX12, 33) rfl rfl (by decide) hkd (mX12_of h1) ⟨rfl, rfl⟩ rfl ⟨Nat.le_of_ble_eq_true rfl, Nat.le_of_ble_eq_true rfl⟩ (rest := []) rfl (Nat.le_of_ble_eq_true rfl) ⟨Nat.le_of_ble_eq_true rfl, Nat.le_of_ble_eq_true rfl⟩ dX12_setRewriting_57) ?_
          refine v_iload_n C 4 dX12_setRewriting_60 rfl rfl ?_
          refine v_icmpne C 78 dX12_setRewriting_61 (by decide) h (fun _ h => ?_) (fun _ h => ?_)
          · refine v_sub [(0, .ref (bs + a0)), (1, .int x1), (2, .int x2), (3, .int x3), (4, .int x4)] [1, 2, 3, 4, 5] rfl ?_
            exact wX12_setRewriting_78 C hin h
          · refine v_aload_n C 1 dX12_setRewriting_64 rfl rfl ?_
            refine v_iload_n C 2 dX12_setRewriting_65 rfl rfl ?_
            refine v_iload_n C 3 dX12_setRewriting_66 rfl rfl ?_
            refine v_iconst C (5 : Int32) dX12_setRewriting_67 (by decide) ?_
            obtain ⟨y9, h1, h⟩ := ob_some h
            obtain ⟨hkd, h1⟩ := kd_some h1
            refine v_goi (rn_V C gcX12_114 (RX12, TX12, 33) rfl rfl (by decide) hkd (mX12_of h1) ⟨rfl, rfl⟩ rfl ⟨Nat.le_of_ble_eq_true rfl, Nat.le_of_ble_eq_true rfl⟩ (rest := []) rfl (Nat.le_of_ble_eq_true rfl) ⟨Nat.le_of_ble_eq_true rfl, Nat.le_of_ble_eq_true rfl⟩ dX12_setRewriting_68) ?_
            refine v_iload C 5 dX12_setRewriting_71 rfl ?_
            refine v_iload_n C 4 dX12_setRewriting_73 rfl rfl ?_
            refine v_iand C dX12_setRewriting_74 ?_
            refine v_icmpeq C 82 dX12_setRewriting_75 (by decide) h (fun _ h => ?_) (fun _ h => ?_)
            · refine v_iconst C (0 : Int32) dX12_setRewriting_82 (by decide) ?_
              refine v_sub [(0, .ref (bs + a0)), (1, .int x1), (2, .int x2), (3, .int x3), (4, .int x4)] [1, 2, 3, 4, 5] rfl ?_
              exact wX12_setRewriting_83 C hin h
            · refine v_sub [(0, .ref (bs + a0)), (1, .int x1), (2, .int x2), (3, .int x3), (4, .int x4)] [1, 2, 3, 4, 5] rfl ?_
              exact wX12_setRewriting_78 C hin h
        · refine v_bipush C (-4 : Int32) dX12_setRewriting_46 (by decide) ?_
          exact v_iret C dX12_setRewriting_48 (Prod.mk.inj (Option.some.inj h)).2 (Prod.mk.inj (Option.some.inj h)).1
      · refine v_bipush C (-3 : Int32) dX12_setRewriting_33 (by decide) ?_
        exact v_iret C dX12_setRewriting_35 (Prod.mk.inj (Option.some.inj h)).2 (Prod.mk.inj (Option.some.inj h)).1
  · refine v_iload C 0 dX12_setRewriting_13 rfl ?_
    exact v_iret C dX12_setRewriting_15 (Prod.mk.inj (Option.some.inj h)).2 (Prod.mk.inj (Option.some.inj h)).1
set_option maxRecDepth 100000 in
set_option maxHeartbeats 4000000 in
theorem mX12_removeRule {l : Launch} {D : UD} {bs : Nat} {a0 : Nat} {x1 : Int32} {x2 : Int32} {u0 : UH} {r : Int32} {v : UH} (h : fX12_removeRule a0 x1 x2 u0 = some (r, v)) : Met l yX12_removeRule (wz yX12_removeRule cX12_removeRule 4 (some .int)) rmX12_removeRule (va_Pc [.ref (bs + a0), .int x1, .int x2] (uIn D bs u0)) (uQi D bs u0 v r) 0 0 (uA bs u0) := by
  refine uMet (by decide) (Nat.le_of_ble_eq_true rfl) ?_
  intro X tw hX C hin
  have C : uCx X D bs tw cX12_removeRule 4 RX12 (some .int) := C
  have hin : X.2.2.2.2.2.2.2.1.name = "removeRule" := hin
  refine v_L [(0, .ref (bs + a0)), (1, .int x1), (2, .int x2)] rfl ?_
  unfold fX12_removeRule at h
  refine v_aload_n C 0 dX12_removeRule_0 rfl rfl ?_
  refine v_iload_n C 1 dX12_removeRule_1 rfl rfl ?_
  refine v_iload_n C 2 dX12_removeRule_2 rfl rfl ?_
  obtain ⟨y1, h1, h⟩ := ob_some h
  obtain ⟨hkd, h1⟩ := kd_some h1
  refine v_goi (rn_V C gcX12_139 (RX12, TX12, 33) rfl rfl (by decide) hkd (mX12_ruleBarred h1) ⟨rfl, rfl⟩ rfl ⟨Nat.le_of_ble_eq_true rfl, Nat.le_of_ble_eq_true rfl⟩ (rest := []) rfl (Nat.le_of_ble_eq_true rfl) ⟨Nat.le_of_ble_eq_true rfl, Nat.le_of_ble_eq_true rfl⟩ dX12_removeRule_3) ?_
  refine v_istore_n C [(3, .int y1), (0, .ref (bs + a0)), (1, .int x1), (2, .int x2)] dX12_removeRule_6 rfl (by decide) rfl ?_
  refine v_iload_n C 0 dX12_removeRule_7 rfl rfl ?_
  refine v_ifge C 13 dX12_removeRule_8 (by decide) h (fun _ h => ?_) (fun _ h => ?_)
  · refine v_aload_n C 1 dX12_removeRule_13 rfl rfl ?_
    obtain ⟨u2, h1, h⟩ := ob_some h
    obtain ⟨hkd, h1⟩ := kd_some h1
    refine v_gov (rn_V C gcX12_125 (RX12, TX12, 33) rfl rfl (by decide) hkd (mX12_keep h1) ⟨rfl, rfl⟩ rfl ⟨Nat.le_of_ble_eq_true rfl, Nat.le_of_ble_eq_true rfl⟩ (rest := []) rfl (Nat.le_of_ble_eq_true rfl) ⟨Nat.le_of_ble_eq_true rfl, Nat.le_of_ble_eq_true rfl⟩ dX12_removeRule_14) ?_
    refine v_aload_n C 1 dX12_removeRule_17 rfl rfl ?_
    refine v_iload_n C 2 dX12_removeRule_18 rfl rfl ?_
    refine v_iload_n C 3 dX12_removeRule_19 rfl rfl ?_
    obtain ⟨u3, h1, h⟩ := ob_some h
    obtain ⟨hkd, h1⟩ := kd_some h1
    refine v_gov (rn_V C gcX12_143 (RX12, TX12, 33) rfl rfl (by decide) hkd (mX12_close h1) ⟨rfl, rfl⟩ rfl ⟨Nat.le_of_ble_eq_true rfl, Nat.le_of_ble_eq_true rfl⟩ (rest := []) rfl (Nat.le_of_ble_eq_true rfl) ⟨Nat.le_of_ble_eq_true rfl, Nat.le_of_ble_eq_true rfl⟩ dX12_removeRule_20) ?_
    refine v_aload_n C 1 dX12_removeRule_23 rfl rfl ?_
    refine v_iload_n C 2 dX12_removeRule_24 rfl rfl ?_
    obtain ⟨y4, h1, h⟩ := ob_some h
    obtain ⟨hkd, h1⟩ := kd_some h1
    refine v_goi (rn_V C gcX12_110 (RX12, TX12, 33) rfl rfl (by decide) hkd (mX12_many h1) ⟨rfl, rfl⟩ rfl ⟨Nat.le_of_ble_eq_true rfl, Nat.le_of_ble_eq_true rfl⟩ (rest := []) rfl (Nat.le_of_ble_eq_true rfl) ⟨Nat.le_of_ble_eq_true rfl, Nat.le_of_ble_eq_true rfl⟩ dX12_removeRule_25) ?_
    exact v_iret C dX12_removeRule_28 (Prod.mk.inj (Option.some.inj h)).2 (Prod.mk.inj (Option.some.inj h)).1
  · refine v_iload_n C 0 dX12_removeRule_11 rfl rfl ?_
    exact v_iret C dX12_removeRule_12 (Prod.mk.inj (Option.some.inj h)).2 (Prod.mk.inj (Option.some.inj h)).1
set_option maxRecDepth 100000 in
set_option maxHeartbeats 4000000 in
theorem wX12_moveRule_B35 {X : UX} {D : UD} {bs tw : Nat} {u0 : UH} {r : Int32} {v : UH} (C : uCx X D bs tw cX12_moveRule 6 RX12 (some .int)) (hin : X.2.2.2.2.2.2.2.1.name = "moveRule") {a0 : Nat} {x1 : Int32} {x2 : Int32} {x3 : Int32}  {G : UH → Prop} {k : Int32 → UH → Option UH} (hk : ∀ (x5 : Int32) (u' : UH) e, k x5 u' = some e → G e → VV X D bs u0 rmX12_moveRule 6 0 0 (MQ X.2.2.2.2.2.2.1 (uQi D bs u0 v r) X.2.2.2.2.2.1 X.2.2.2.1 0 0 (uA bs u0)) u' 35 [(0, .ref (bs + a0)), (1, .int x1), (2, .int x2), (3, .int x3), (5, .int x5)] []) (hex : ∀  (u' : UH), G u' → VV X D bs u0 rmX12_moveRule 6 0 0 (MQ X.2.2.2.2.2.2.1 (uQi D bs u0 v r) X.2.2.2.2.2.1 X.2.2.2.1 0 0 (uA bs u0)) u' 63 [(0, .ref (bs + a0)), (1, .int x1), (2, .int x2), (3, .int x3)] [])  : ∀ (x5 : Int32) (u : UH) e, fX12_moveRule_B35 a0 x1 x2  k x5 u = some e → G e → VV X D bs u0 rmX12_moveRule 6 0 0 (MQ X.2.2.2.2.2.2.1 (uQi D bs u0 v r) X.2.2.2.2.2.1 X.2.2.2.1 0 0 (uA bs u0)) u 35 [(0, .ref (bs + a0)), (1, .int x1), (2, .int x2), (3, .int x3), (5, .int x5)] [] := by
  intro x5 u e h g
  unfold fX12_moveRule_B35 at h
  refine v_iload C 4 dX12_moveRule_35 rfl ?_
  refine v_bipush C (7 : Int32) dX12_moveRule_37 (by decide) ?_
  refine v_icmpge C 63 dX12_moveRule_39 (by decide) h (fun _ h => ?_) (fun _ h => ?_)
  · refine v_sub [(0, .ref (bs + a0)), (1, .int x1), (2, .int x2), (3, .int x3)] [0, 1, 2, 3] rfl ?_
    exact hex u ((Option.some.inj h).symm ▸ g)
  · refine v_aload_n C 0 dX12_moveRule_42 rfl rfl ?_
    refine v_getR C fdX12_19 dX12_moveRule_43 h (fun b4 h => ?_)
    refine v_iload C 4 dX12_moveRule_46 rfl ?_
    refine v_aload_n C 0 dX12_moveRule_48 rfl rfl ?_
    refine v_iload_n C 1 dX12_moveRule_49 rfl rfl ?_
    refine v_iload_n C 2 dX12_moveRule_50 rfl rfl ?_
    refine v_iload C 4 dX12_moveRule_51 rfl ?_
    obtain ⟨y5, h1, h⟩ := ob_some h
    obtain ⟨hkd, h1⟩ := kd_some h1
    refine v_goi (rn_V C gcX12_114 (RX12, TX12, 33) rfl rfl (by decide) hkd (mX12_of h1) ⟨rfl, rfl⟩ rfl ⟨Nat.le_of_ble_eq_true rfl, Nat.le_of_ble_eq_true rfl⟩ (rest := [.int x5, .ref (bs + b4)]) rfl (Nat.le_of_ble_eq_true rfl) ⟨Nat.le_of_ble_eq_true rfl, Nat.le_of_ble_eq_true rfl⟩ dX12_moveRule_53) ?_
    refine v_stI C dX12_moveRule_56 h (fun u6 h => ?_)
    refine v_iinc C 4 (x5 + (1 : Int32)) [(5, .int (x5 + (1 : Int32))), (0, .ref (bs + a0)), (1, .int x1), (2, .int x2), (3, .int x3)] dX12_moveRule_57 rfl rfl (by decide) rfl ?_
    refine v_goto C 35 dX12_moveRule_60 (by decide) ?_
    refine v_sub [(0, .ref (bs + a0)), (1, .int x1), (2, .int x2), (3, .int x3), (5, .int (x5 + (1 : Int32)))] [1, 2, 3, 4, 0] rfl ?_
    exact hk (x5 + (1 : Int32)) u6 _ h g
set_option maxRecDepth 100000 in
set_option maxHeartbeats 4000000 in
theorem wX12_moveRule_B78 {X : UX} {D : UD} {bs tw : Nat} {u0 : UH} {r : Int32} {v : UH} (C : uCx X D bs tw cX12_moveRule 6 RX12 (some .int)) (hin : X.2.2.2.2.2.2.2.1.name = "moveRule") {a0 : Nat} {x1 : Int32} {x2 : Int32} {x3 : Int32}  {G : UH → Prop} {k : Int32 → UH → Option UH} (hk : ∀ (x5 : Int32) (u' : UH) e, k x5 u' = some e → G e → VV X D bs u0 rmX12_moveRule 6 0 0 (MQ X.2.2.2.2.2.2.1 (uQi D bs u0 v r) X.2.2.2.2.2.1 X.2.2.2.1 0 0 (uA bs u0)) u' 78 [(0, .ref (bs + a0)), (1, .int x1), (2, .int x2), (3, .int x3), (5, .int x5)] []) (hex : ∀  (u' : UH), G u' → VV X D bs u0 rmX12_moveRule 6 0 0 (MQ X.2.2.2.2.2.2.1 (uQi D bs u0 v r) X.2.2.2.2.2.1 X.2.2.2.1 0 0 (uA bs u0)) u' 106 [(2, .int x2), (3, .int x3)] [])  : ∀ (x5 : Int32) (u : UH) e, fX12_moveRule_B78 a0 x1 x3  k x5 u = some e → G e → VV X D bs u0 rmX12_moveRule 6 0 0 (MQ X.2.2.2.2.2.2.1 (uQi D bs u0 v r) X.2.2.2.2.2.1 X.2.2.2.1 0 0 (uA bs u0)) u 78 [(0, .ref (bs + a0)), (1, .int x1), (2, .int x2), (3, .int x3), (5, .int x5)] [] := by
  intro x5 u e h g
  unfold fX12_moveRule_B78 at h
  refine v_iload C 4 dX12_moveRule_78 rfl ?_
  refine v_bipush C (7 : Int32) dX12_moveRule_80 (by decide) ?_
  refine v_icmpge C 106 dX12_moveRule_82 (by decide) h (fun _ h => ?_) (fun _ h => ?_)
  · refine v_sub [(2, .int x2), (3, .int x3)] [2, 3] rfl ?_
    exact hex u ((Option.some.inj h).symm ▸ g)
  · refine v_aload_n C 0 dX12_moveRule_85 rfl rfl ?_
    refine v_iload_n C 1 dX12_moveRule_86 rfl rfl ?_
    refine v_iload_n C 3 dX12_moveRule_87 rfl rfl ?_
    refine v_iload C 4 dX12_moveRule_88 rfl ?_
    refine v_aload_n C 0 dX12_moveRule_90 rfl rfl ?_
    refine v_getR C fdX12_19 dX12_moveRule_91 h (fun b11 h => ?_)
    refine v_iload C 4 dX12_moveRule_94 rfl ?_
    refine v_ldI C dX12_moveRule_96 h (fun y12 h => ?_)
    obtain ⟨u13, h1, h⟩ := ob_some h
    obtain ⟨hkd, h1⟩ := kd_some h1
    refine v_gov (rn_V C gcX12_118 (RX12, TX12, 33) rfl rfl (by decide) hkd (mX12_put h1) ⟨rfl, rfl⟩ rfl ⟨Nat.le_of_ble_eq_true rfl, Nat.le_of_ble_eq_true rfl⟩ (rest := []) rfl (Nat.le_of_ble_eq_true rfl) ⟨Nat.le_of_ble_eq_true rfl, Nat.le_of_ble_eq_true rfl⟩ dX12_moveRule_97) ?_
    refine v_iinc C 4 (x5 + (1 : Int32)) [(5, .int (x5 + (1 : Int32))), (0, .ref (bs + a0)), (1, .int x1), (2, .int x2), (3, .int x3)] dX12_moveRule_100 rfl rfl (by decide) rfl ?_
    refine v_goto C 78 dX12_moveRule_103 (by decide) ?_
    refine v_sub [(0, .ref (bs + a0)), (1, .int x1), (2, .int x2), (3, .int x3), (5, .int (x5 + (1 : Int32)))] [1, 2, 3, 4, 0] rfl ?_
    exact hk (x5 + (1 : Int32)) u13 _ h g
set_option maxRecDepth 100000 in
set_option maxHeartbeats 4000000 in
theorem mX12_moveRule {l : Launch} {D : UD} {bs : Nat} {a0 : Nat} {x1 : Int32} {x2 : Int32} {x3 : Int32} {u0 : UH} {r : Int32} {v : UH} (h : fX12_moveRule a0 x1 x2 x3 u0 = some (r, v)) : Met l yX12_moveRule (wz yX12_moveRule cX12_moveRule 6 (some .int)) rmX12_moveRule (va_Pc [.ref (bs + a0), .int x1, .int x2, .int x3] (uIn D bs u0)) (uQi D bs u0 v r) 0 0 (uA bs u0) := by
  refine uMet (by decide) (Nat.le_of_ble_eq_true rfl) ?_
  intro X tw hX C hin
  have C : uCx X D bs tw cX12_moveRule 6 RX12 (some .int) := C
  have hin : X.2.2.2.2.2.2.2.1.name = "moveRule" := hin
  refine v_L [(0, .ref (bs + a0)), (1, .int x1), (2, .int x2), (3, .int x3)] rfl ?_
  unfold fX12_moveRule at h
  refine v_aload_n C 0 dX12_moveRule_0 rfl rfl ?_
  refine v_iload_n C 1 dX12_moveRule_1 rfl rfl ?_
  refine v_iload_n C 2 dX12_moveRule_2 rfl rfl ?_
  obtain ⟨y1, h1, h⟩ := ob_some h
  obtain ⟨hkd, h1⟩ := kd_some h1
  refine v_goi (rn_V C gcX12_139 (RX12, TX12, 33) rfl rfl (by decide) hkd (mX12_ruleBarred h1) ⟨rfl, rfl⟩ rfl ⟨Nat.le_of_ble_eq_true rfl, Nat.le_of_ble_eq_true rfl⟩ (rest := []) rfl (Nat.le_of_ble_eq_true rfl) ⟨Nat.le_of_ble_eq_true rfl, Nat.le_of_ble_eq_true rfl⟩ dX12_moveRule_3) ?_
  refine v_istore C [(4, .int y1), (0, .ref (bs + a0)), (1, .int x1), (2, .int x2), (3, .int x3)] dX12_moveRule_6 (by decide) rfl ?_
  refine v_iload C 0 dX12_moveRule_8 rfl ?_
  refine v_ifge C 16 dX12_moveRule_10 (by decide) h (fun _ h => ?_) (fun _ h => ?_)
  · refine v_aload_n C 1 dX12_moveRule_16 rfl rfl ?_
    refine v_iload_n C 2 dX12_moveRule_17 rfl rfl ?_
    refine v_iload_n C 4 dX12_moveRule_18 rfl rfl ?_
    obtain ⟨y2, h1, h⟩ := ob_some h
    obtain ⟨hkd, h1⟩ := kd_some h1
    refine v_goi (rn_V C gcX12_136 (RX12, TX12, 33) rfl rfl (by decide) hkd (mX12_noRule h1) ⟨rfl, rfl⟩ rfl ⟨Nat.le_of_ble_eq_true rfl, Nat.le_of_ble_eq_true rfl⟩ (rest := []) rfl (Nat.le_of_ble_eq_true rfl) ⟨Nat.le_of_ble_eq_true rfl, Nat.le_of_ble_eq_true rfl⟩ dX12_moveRule_19) ?_
    refine v_ifeq C 28 dX12_moveRule_22 (by decide) h (fun _ h => ?_) (fun _ h => ?_)
    · refine v_aload_n C 1 dX12_moveRule_28 rfl rfl ?_
      obtain ⟨u3, h1, h⟩ := ob_some h
      obtain ⟨hkd, h1⟩ := kd_some h1
      refine v_gov (rn_V C gcX12_125 (RX12, TX12, 33) rfl rfl (by decide) hkd (mX12_keep h1) ⟨rfl, rfl⟩ rfl ⟨Nat.le_of_ble_eq_true rfl, Nat.le_of_ble_eq_true rfl⟩ (rest := []) rfl (Nat.le_of_ble_eq_true rfl) ⟨Nat.le_of_ble_eq_true rfl, Nat.le_of_ble_eq_true rfl⟩ dX12_moveRule_29) ?_
      refine v_iconst C (0 : Int32) dX12_moveRule_32 (by decide) ?_
      refine v_istore C [(5, .int (0 : Int32)), (4, .int y1), (0, .ref (bs + a0)), (1, .int x1), (2, .int x2), (3, .int x3)] dX12_moveRule_33 (by decide) rfl ?_
      refine v_sub [(0, .ref (bs + a0)), (1, .int x1), (2, .int x2), (3, .int x3), (5, .int (0 : Int32))] [2, 3, 4, 5, 0] rfl ?_
      refine it2_O (V := fun x5 u' => VV X D bs u0 rmX12_moveRule 6 0 0 (MQ X.2.2.2.2.2.2.1 (uQi D bs u0 v r) X.2.2.2.2.2.1 X.2.2.2.1 0 0 (uA bs u0)) u' 35 [(0, .ref (bs + a0)), (1, .int x1), (2, .int x2), (3, .int x3), (5, .int x5)] []) h (fun k_ hk_ => wX12_moveRule_B35 C hin hk_ ?_ )
      intro z8 h
      try dsimp only [Sum.elim_inl] at h
      refine v_aload_n C 0 dX12_moveRule_63 rfl rfl ?_
      refine v_iload_n C 1 dX12_moveRule_64 rfl rfl ?_
      refine v_iload_n C 2 dX12_moveRule_65 rfl rfl ?_
      obtain ⟨u9, h1, h⟩ := ob_some h
      obtain ⟨hkd, h1⟩ := kd_some h1
      refine v_gov (rn_V C gcX12_143 (RX12, TX12, 33) rfl rfl (by decide) hkd (mX12_close h1) ⟨rfl, rfl⟩ rfl ⟨Nat.le_of_ble_eq_true rfl, Nat.le_of_ble_eq_true rfl⟩ (rest := []) rfl (Nat.le_of_ble_eq_true rfl) ⟨Nat.le_of_ble_eq_true rfl, Nat.le_of_ble_eq_true rfl⟩ dX12_moveRule_66) ?_
      refine v_aload_n C 0 dX12_moveRule_69 rfl rfl ?_
      refine v_iload_n C 1 dX12_moveRule_70 rfl rfl ?_
      refine v_iload_n C 3 dX12_moveRule_71 rfl rfl ?_
      obtain ⟨u10, h1, h⟩ := ob_some h
      obtain ⟨hkd, h1⟩ := kd_some h1
      refine v_gov (rn_V C gcX12_128 (RX12, TX12, 33) rfl rfl (by decide) hkd (mX12_open h1) ⟨rfl, rfl⟩ rfl ⟨Nat.le_of_ble_eq_true rfl, Nat.le_of_ble_eq_true rfl⟩ (rest := []) rfl (Nat.le_of_ble_eq_true rfl) ⟨Nat.le_of_ble_eq_true rfl, Nat.le_of_ble_eq_true rfl⟩ dX12_moveRule_72) ?_
      refine v_iconst C (0 : Int32) dX12_moveRule_75 (by decide) ?_
      refine v_istore C [(5, .int (0 : Int32)), (0, .ref (bs + a0)), (1, .int x1), (2, .int x2), (3, .int x3)] dX12_moveRule_76 (by decide) rfl ?_
      refine v_sub [(0, .ref (bs + a0)), (1, .int x1), (2, .int x2), (3, .int x3), (5, .int (0 : Int32))] [1, 2, 3, 4, 0] rfl ?_
      refine it2_O (V := fun x5 u' => VV X D bs u0 rmX12_moveRule 6 0 0 (MQ X.2.2.2.2.2.2.1 (uQi D bs u0 v r) X.2.2.2.2.2.1 X.2.2.2.1 0 0 (uA bs u0)) u' 78 [(0, .ref (bs + a0)), (1, .int x1), (2, .int x2), (3, .int x3), (5, .int x5)] []) h (fun k_ hk_ => wX12_moveRule_B78 C hin hk_ ?_ )
      intro z12 h
      try dsimp only [Sum.elim_inl] at h
      refine v_iload_n C 0 dX12_moveRule_106 rfl rfl ?_
      refine v_iload_n C 1 dX12_moveRule_107 rfl rfl ?_
      refine v_icmpne C 115 dX12_moveRule_108 (by decide) h (fun _ h => ?_) (fun _ h => ?_)
      · refine v_iconst C (1 : Int32) dX12_moveRule_115 (by decide) ?_
        exact v_iret C dX12_moveRule_116 (Prod.mk.inj (Option.some.inj h)).2 (Prod.mk.inj (Option.some.inj h)).1
      · refine v_iconst C (0 : Int32) dX12_moveRule_111 (by decide) ?_
        refine v_goto C 116 dX12_moveRule_112 (by decide) ?_
        exact v_iret C dX12_moveRule_116 (Prod.mk.inj (Option.some.inj h)).2 (Prod.mk.inj (Option.some.inj h)).1
    · refine v_bipush C (-2 : Int32) dX12_moveRule_25 (by decide) ?_
      exact v_iret C dX12_moveRule_27 (Prod.mk.inj (Option.some.inj h)).2 (Prod.mk.inj (Option.some.inj h)).1
  · refine v_iload C 0 dX12_moveRule_13 rfl ?_
    exact v_iret C dX12_moveRule_15 (Prod.mk.inj (Option.some.inj h)).2 (Prod.mk.inj (Option.some.inj h)).1
set_option maxRecDepth 100000 in
set_option maxHeartbeats 4000000 in
theorem wX12_switchRule_49 {X : UX} {D : UD} {bs tw : Nat} {u0 : UH} {r : Int32} {v : UH} (C : uCx X D bs tw cX12_switchRule 7 RX12 (some .int)) (hin : X.2.2.2.2.2.2.2.1.name = "switchRule") {a0 : Nat} {x1 : Int32} {x2 : Int32} {x5 : Int32} {s0 : Int32} {u : UH} (h : fX12_switchRule_49 a0 x1 x2 x5 s0 u = some (r, v)) : VV X D bs u0 rmX12_switchRule 7 0 0 (MQ X.2.2.2.2.2.2.1 (uQi D bs u0 v r) X.2.2.2.2.2.1 X.2.2.2.1 0 0 (uA bs u0)) u 49 [(0, .ref (bs + a0)), (1, .int x1), (2, .int x2), (5, .int x5)] [.int s0] := by
  unfold fX12_switchRule_49 at h
  refine v_istore C [(6, .int s0), (0, .ref (bs + a0)), (1, .int x1), (2, .int x2), (5, .int x5)] dX12_switchRule_49 (by decide) rfl ?_
  refine v_aload_n C 1 dX12_switchRule_51 rfl rfl ?_
  refine v_iload_n C 2 dX12_switchRule_52 rfl rfl ?_
  refine v_iload_n C 3 dX12_switchRule_53 rfl rfl ?_
  refine v_bipush C (6 : Int32) dX12_switchRule_54 (by decide) ?_
  refine v_iload C 4 dX12_switchRule_56 rfl ?_
  obtain ⟨u4, h1, h⟩ := ob_some h
  obtain ⟨hkd, h1⟩ := kd_some h1
  refine v_gov (rn_V C gcX12_118 (RX12, TX12, 33) rfl rfl (by decide) hkd (mX12_put h1) ⟨rfl, rfl⟩ rfl ⟨Nat.le_of_ble_eq_true rfl, Nat.le_of_ble_eq_true rfl⟩ (rest := []) rfl (Nat.le_of_ble_eq_true rfl) ⟨Nat.le_of_ble_eq_true rfl, Nat.le_of_ble_eq_true rfl⟩ dX12_switchRule_58) ?_
  refine v_iload C 0 dX12_switchRule_61 rfl ?_
  exact v_iret C dX12_switchRule_63 (Prod.mk.inj (Option.some.inj h)).2 (Prod.mk.inj (Option.some.inj h)).1
set_option maxRecDepth 100000 in
set_option maxHeartbeats 4000000 in
theorem wX12_switchRule_29 {X : UX} {D : UD} {bs tw : Nat} {u0 : UH} {r : Int32} {v : UH} (C : uCx X D bs tw cX12_switchRule 7 RX12 (some .int)) (hin : X.2.2.2.2.2.2.2.1.name = "switchRule") {a0 : Nat} {x1 : Int32} {x2 : Int32} {s0 : Int32} {u : UH} (h : fX12_switchRule_29 a0 x1 x2 s0 u = some (r, v)) : VV X D bs u0 rmX12_switchRule 7 0 0 (MQ X.2.2.2.2.2.2.1 (uQi D bs u0 v r) X.2.2.2.2.2.1 X.2.2.2.1 0 0 (uA bs u0)) u 29 [(0, .ref (bs + a0)), (1, .int x1), (2, .int x2)] [.int s0] := by
  unfold fX12_switchRule_29 at h
  refine v_istore C [(5, .int s0), (0, .ref (bs + a0)), (1, .int x1), (2, .int x2)] dX12_switchRule_29 (by decide) rfl ?_
  refine v_aload_n C 1 dX12_switchRule_31 rfl rfl ?_
  refine v_iload_n C 2 dX12_switchRule_32 rfl rfl ?_
  refine v_iload_n C 3 dX12_switchRule_33 rfl rfl ?_
  refine v_bipush C (6 : Int32) dX12_switchRule_34 (by decide) ?_
  obtain ⟨y3, h1, h⟩ := ob_some h
  obtain ⟨hkd, h1⟩ := kd_some h1
  refine v_goi (rn_V C gcX12_114 (RX12, TX12, 33) rfl rfl (by decide) hkd (mX12_of h1) ⟨rfl, rfl⟩ rfl ⟨Nat.le_of_ble_eq_true rfl, Nat.le_of_ble_eq_true rfl⟩ (rest := []) rfl (Nat.le_of_ble_eq_true rfl) ⟨Nat.le_of_ble_eq_true rfl, Nat.le_of_ble_eq_true rfl⟩ dX12_switchRule_36) ?_
  refine v_iload C 0 dX12_switchRule_39 rfl ?_
  refine v_icmpne C 48 dX12_switchRule_41 (by decide) h (fun _ h => ?_) (fun _ h => ?_)
  · refine v_iconst C (1 : Int32) dX12_switchRule_48 (by decide) ?_
    refine v_sub [(0, .ref (bs + a0)), (1, .int x1), (2, .int x2), (5, .int s0)] [1, 2, 3, 0] rfl ?_
    exact wX12_switchRule_49 C hin h
  · refine v_iconst C (0 : Int32) dX12_switchRule_44 (by decide) ?_
    refine v_goto C 49 dX12_switchRule_45 (by decide) ?_
    refine v_sub [(0, .ref (bs + a0)), (1, .int x1), (2, .int x2), (5, .int s0)] [1, 2, 3, 0] rfl ?_
    exact wX12_switchRule_49 C hin h
set_option maxRecDepth 100000 in
set_option maxHeartbeats 4000000 in
theorem mX12_switchRule {l : Launch} {D : UD} {bs : Nat} {a0 : Nat} {x1 : Int32} {x2 : Int32} {x3 : Int32} {u0 : UH} {r : Int32} {v : UH} (h : fX12_switchRule a0 x1 x2 x3 u0 = some (r, v)) : Met l yX12_switchRule (wz yX12_switchRule cX12_switchRule 7 (some .int)) rmX12_switchRule (va_Pc [.ref (bs + a0), .int x1, .int x2, .int x3] (uIn D bs u0)) (uQi D bs u0 v r) 0 0 (uA bs u0) := by
  refine uMet (by decide) (Nat.le_of_ble_eq_true rfl) ?_
  intro X tw hX C hin
  have C : uCx X D bs tw cX12_switchRule 7 RX12 (some .int) := C
  have hin : X.2.2.2.2.2.2.2.1.name = "switchRule" := hin
  refine v_L [(0, .ref (bs + a0)), (1, .int x1), (2, .int x2), (3, .int x3)] rfl ?_
  unfold fX12_switchRule at h
  refine v_aload_n C 0 dX12_switchRule_0 rfl rfl ?_
  refine v_iload_n C 1 dX12_switchRule_1 rfl rfl ?_
  refine v_iload_n C 2 dX12_switchRule_2 rfl rfl ?_
  obtain ⟨y1, h1, h⟩ := ob_some h
  obtain ⟨hkd, h1⟩ := kd_some h1
  refine v_goi (rn_V C gcX12_139 (RX12, TX12, 33) rfl rfl (by decide) hkd (mX12_ruleBarred h1) ⟨rfl, rfl⟩ rfl ⟨Nat.le_of_ble_eq_true rfl, Nat.le_of_ble_eq_true rfl⟩ (rest := []) rfl (Nat.le_of_ble_eq_true rfl) ⟨Nat.le_of_ble_eq_true rfl, Nat.le_of_ble_eq_true rfl⟩ dX12_switchRule_3) ?_
  refine v_istore C [(4, .int y1), (0, .ref (bs + a0)), (1, .int x1), (2, .int x2), (3, .int x3)] dX12_switchRule_6 (by decide) rfl ?_
  refine v_iload C 0 dX12_switchRule_8 rfl ?_
  refine v_ifge C 16 dX12_switchRule_10 (by decide) h (fun _ h => ?_) (fun _ h => ?_)
  · refine v_aload_n C 1 dX12_switchRule_16 rfl rfl ?_
    obtain ⟨u2, h1, h⟩ := ob_some h
    obtain ⟨hkd, h1⟩ := kd_some h1
    refine v_gov (rn_V C gcX12_125 (RX12, TX12, 33) rfl rfl (by decide) hkd (mX12_keep h1) ⟨rfl, rfl⟩ rfl ⟨Nat.le_of_ble_eq_true rfl, Nat.le_of_ble_eq_true rfl⟩ (rest := []) rfl (Nat.le_of_ble_eq_true rfl) ⟨Nat.le_of_ble_eq_true rfl, Nat.le_of_ble_eq_true rfl⟩ dX12_switchRule_17) ?_
    refine v_iload_n C 4 dX12_switchRule_20 rfl rfl ?_
    refine v_ifeq C 28 dX12_switchRule_21 (by decide) h (fun _ h => ?_) (fun _ h => ?_)
    · refine v_iconst C (0 : Int32) dX12_switchRule_28 (by decide) ?_
      refine v_sub [(0, .ref (bs + a0)), (1, .int x1), (2, .int x2)] [1, 2, 3] rfl ?_
      exact wX12_switchRule_29 C hin h
    · refine v_iconst C (1 : Int32) dX12_switchRule_24 (by decide) ?_
      refine v_goto C 29 dX12_switchRule_25 (by decide) ?_
      refine v_sub [(0, .ref (bs + a0)), (1, .int x1), (2, .int x2)] [1, 2, 3] rfl ?_
      exact wX12_switchRule_29 C hin h
  · refine v_iload C 0 dX12_switchRule_13 rfl ?_
    exact v_iret C dX12_switchRule_15 (Prod.mk.inj (Option.some.inj h)).2 (Prod.mk.inj (Option.some.inj h)).1
set_option maxRecDepth 100000 in
set_option maxHeartbeats 4000000 in
theorem mX12_rule {l : Launch} {D : UD} {bs : Nat} {a0 : Nat} {x1 : Int32} {x2 : Int32} {x3 : Int32} {u0 : UH} {r : Int32} (h : fX12_rule a0 x1 x2 x3 u0 = some r) : Met l yX12_rule (wz yX12_rule cX12_rule 5 (some .int)) rmX12_rule (va_Pc [.ref (bs + a0), .int x1, .int x2, .int x3] (uIn D bs u0)) (uQi D bs u0 u0 r) 0 0 (uA bs u0) := by
  refine uMet (by decide) (Nat.le_of_ble_eq_true rfl) ?_
  intro X tw hX C hin
  have C : uCx X D bs tw cX12_rule 5 RX12 (some .int) := C
  have hin : X.2.2.2.2.2.2.2.1.name = "rule" := hin
  refine v_L [(0, .ref (bs + a0)), (1, .int x1), (2, .int x2), (3, .int x3)] rfl ?_
  unfold fX12_rule at h
  refine v_aload_n C 0 dX12_rule_0 rfl rfl ?_
  refine v_iload_n C 1 dX12_rule_1 rfl rfl ?_
  refine v_iload_n C 2 dX12_rule_2 rfl rfl ?_
  obtain ⟨y1, h1, h⟩ := ob_some h
  obtain ⟨hkd, h1⟩ := kd_some h1
  refine v_goi (rn_V C gcX12_139 (RX12, TX12, 33) rfl rfl (by decide) hkd (mX12_ruleBarred h1) ⟨rfl, rfl⟩ rfl ⟨Nat.le_of_ble_eq_true rfl, Nat.le_of_ble_eq_true rfl⟩ (rest := []) rfl (Nat.le_of_ble_eq_true rfl) ⟨Nat.le_of_ble_eq_true rfl, Nat.le_of_ble_eq_true rfl⟩ dX12_rule_3) ?_
  refine v_istore C [(4, .int y1), (0, .ref (bs + a0)), (1, .int x1), (2, .int x2), (3, .int x3)] dX12_rule_6 (by decide) rfl ?_
  refine v_iload C 0 dX12_rule_8 rfl ?_
  refine v_ifge C 16 dX12_rule_10 (by decide) h (fun _ h => ?_) (fun _ h => ?_)
  · refine v_iload_n C 4 dX12_rule_16 rfl rfl ?_
    refine v_iconst C (0 : Int32) dX12_rule_17 (by decide) ?_
    refine v_bipush C (6 : Int32) dX12_rule_18 (by decide) ?_
    obtain ⟨y2, h1, h⟩ := ob_some h
    refine v_goi (rn_S C gcX12_94 (mX12_in h1) ⟨rfl, rfl⟩ rfl ⟨Nat.le_of_ble_eq_true rfl, Nat.le_of_ble_eq_true rfl⟩ (rest := []) rfl (Nat.le_of_ble_eq_true rfl) ⟨Nat.le_of_ble_eq_true rfl, Nat.le_of_ble_eq_true rfl⟩ dX12_rule_20) ?_
    refine v_ifeq C 36 dX12_rule_23 (by decide) h (fun _ h => ?_) (fun _ h => ?_)
    · refine v_bipush C (-3 : Int32) dX12_rule_36 (by decide) ?_
      exact v_iret C dX12_rule_38 rfl (Option.some.inj h)
    · refine v_aload_n C 1 dX12_rule_26 rfl rfl ?_
      refine v_iload_n C 2 dX12_rule_27 rfl rfl ?_
      refine v_iload_n C 3 dX12_rule_28 rfl rfl ?_
      refine v_iload_n C 4 dX12_rule_29 rfl rfl ?_
      obtain ⟨y3, h1, h⟩ := ob_some h
      obtain ⟨hkd, h1⟩ := kd_some h1
      refine v_goi (rn_V C gcX12_114 (RX12, TX12, 33) rfl rfl (by decide) hkd (mX12_of h1) ⟨rfl, rfl⟩ rfl ⟨Nat.le_of_ble_eq_true rfl, Nat.le_of_ble_eq_true rfl⟩ (rest := []) rfl (Nat.le_of_ble_eq_true rfl) ⟨Nat.le_of_ble_eq_true rfl, Nat.le_of_ble_eq_true rfl⟩ dX12_rule_30) ?_
      refine v_goto C 38 dX12_rule_33 (by decide) ?_
      exact v_iret C dX12_rule_38 rfl (Option.some.inj h)
  · refine v_iload C 0 dX12_rule_13 rfl ?_
    exact v_iret C dX12_rule_15 rfl (Option.some.inj h)
set_option maxRecDepth 100000 in
set_option maxHeartbeats 4000000 in
theorem wX12_count_B4 {X : UX} {D : UD} {bs tw : Nat} {u0 : UH} {r : Int32} (C : uCx X D bs tw cX12_count 4 RX12 (some .int)) (hin : X.2.2.2.2.2.2.2.1.name = "count") {a0 : Nat} {x1 : Int32}  {G : Int32 → Prop} {k : Int32 → Int32 → Option Int32} (hk : ∀ (x2 : Int32) (x3 : Int32)  e, k x2 x3  = some e → G e → VV X D bs u0 rmX12_count 4 0 0 (MQ X.2.2.2.2.2.2.1 (uQi D bs u0 u0 r) X.2.2.2.2.2.1 X.2.2.2.1 0 0 (uA bs u0)) u0 4 [(0, .ref (bs + a0)), (1, .int x1), (2, .int x2), (3, .int x3)] []) (hex : ∀ (x2 : Int32) , G x2 → VV X D bs u0 rmX12_count 4 0 0 (MQ X.2.2.2.2.2.2.1 (uQi D bs u0 u0 r) X.2.2.2.2.2.1 X.2.2.2.1 0 0 (uA bs u0)) u0 24 [(0, .ref (bs + a0)), (1, .int x1), (2, .int x2)] [])  : ∀ (x2 : Int32) (x3 : Int32)  e, fX12_count_B4 a0 u0 k x2 x3  = some e → G e → VV X D bs u0 rmX12_count 4 0 0 (MQ X.2.2.2.2.2.2.1 (uQi D bs u0 u0 r) X.2.2.2.2.2.1 X.2.2.2.1 0 0 (uA bs u0)) u0 4 [(0, .ref (bs + a0)), (1, .int x1), (2, .int x2), (3, .int x3)] [] := by
  intro x2 x3  e h g
  unfold fX12_count_B4 at h
  refine v_iload_n C 3 dX12_count_4 rfl rfl ?_
  refine v_bipush C (6 : Int32) dX12_count_5 (by decide) ?_
  refine v_icmpge C 24 dX12_count_7 (by decide) h (fun _ h => ?_) (fun _ h => ?_)
  · refine v_sub [(0, .ref (bs + a0)), (1, .int x1), (2, .int x2)] [0, 1, 2] rfl ?_
    exact hex x2 ((Option.some.inj h).symm ▸ g)
  · refine v_iload_n C 2 dX12_count_10 rfl rfl ?_
    refine v_aload_n C 0 dX12_count_11 rfl rfl ?_
    refine v_iload_n C 3 dX12_count_12 rfl rfl ?_
    obtain ⟨y1, h1, h⟩ := ob_some h
    obtain ⟨hkd, h1⟩ := kd_some h1
    refine v_goi (rn_V C gcX12_110 (RX12, TX12, 33) rfl rfl (by decide) hkd (mX12_many h1) ⟨rfl, rfl⟩ rfl ⟨Nat.le_of_ble_eq_true rfl, Nat.le_of_ble_eq_true rfl⟩ (rest := [.int x2]) rfl (Nat.le_of_ble_eq_true rfl) ⟨Nat.le_of_ble_eq_true rfl, Nat.le_of_ble_eq_true rfl⟩ dX12_count_13) ?_
    refine v_iadd C dX12_count_16 ?_
    refine v_lti h (fun y2 h => ?_)
    refine v_istore_n C [(2, .int y2), (0, .ref (bs + a0)), (1, .int x1), (3, .int x3)] dX12_count_17 rfl (by decide) rfl ?_
    refine v_iinc C 3 (x3 + (1 : Int32)) [(3, .int (x3 + (1 : Int32))), (2, .int y2), (0, .ref (bs + a0)), (1, .int x1)] dX12_count_18 rfl rfl (by decide) rfl ?_
    refine v_goto C 4 dX12_count_21 (by decide) ?_
    refine v_sub [(0, .ref (bs + a0)), (1, .int x1), (2, .int y2), (3, .int (x3 + (1 : Int32)))] [2, 3, 1, 0] rfl ?_
    exact hk y2 (x3 + (1 : Int32)) _ h g
set_option maxRecDepth 100000 in
set_option maxHeartbeats 4000000 in
theorem mX12_count {l : Launch} {D : UD} {bs : Nat} {a0 : Nat} {x1 : Int32} {u0 : UH} {r : Int32} (h : fX12_count a0 x1 u0 = some r) : Met l yX12_count (wz yX12_count cX12_count 4 (some .int)) rmX12_count (va_Pc [.ref (bs + a0), .int x1] (uIn D bs u0)) (uQi D bs u0 u0 r) 0 0 (uA bs u0) := by
  refine uMet (by decide) (Nat.le_of_ble_eq_true rfl) ?_
  intro X tw hX C hin
  have C : uCx X D bs tw cX12_count 4 RX12 (some .int) := C
  have hin : X.2.2.2.2.2.2.2.1.name = "count" := hin
  refine v_L [(0, .ref (bs + a0)), (1, .int x1)] rfl ?_
  unfold fX12_count at h
  refine v_iconst C (0 : Int32) dX12_count_0 (by decide) ?_
  refine v_istore_n C [(2, .int (0 : Int32)), (0, .ref (bs + a0)), (1, .int x1)] dX12_count_1 rfl (by decide) rfl ?_
  refine v_iconst C (0 : Int32) dX12_count_2 (by decide) ?_
  refine v_istore_n C [(3, .int (0 : Int32)), (2, .int (0 : Int32)), (0, .ref (bs + a0)), (1, .int x1)] dX12_count_3 rfl (by decide) rfl ?_
  refine v_sub [(0, .ref (bs + a0)), (1, .int x1), (2, .int (0 : Int32)), (3, .int (0 : Int32))] [2, 3, 1, 0] rfl ?_
  refine it2_O (V := fun x2 x3 => VV X D bs u0 rmX12_count 4 0 0 (MQ X.2.2.2.2.2.2.1 (uQi D bs u0 u0 r) X.2.2.2.2.2.1 X.2.2.2.1 0 0 (uA bs u0)) u0 4 [(0, .ref (bs + a0)), (1, .int x1), (2, .int x2), (3, .int x3)] []) h (fun k_ hk_ => wX12_count_B4 C hin hk_ ?_ )
  intro z4 h
  try dsimp only [Sum.elim_inl] at h
  refine v_iload_n C 1 dX12_count_24 rfl rfl ?_
  refine v_tsw C 4 dX12_count_25 rfl (by decide) rfl (fun j hj hx off ho => ?_) 82 (by decide) (fun hx => ?_)
  · rcases (show j = 0 ∨ j = 1 ∨ j = 2 ∨ j = 3 ∨ j = 4 by omega) with rfl | rfl | rfl | rfl | rfl
    · refine ⟨60, by cases ho; rfl, ?_⟩
      rw [if_pos hx] at h
      refine v_aload_n C 0 dX12_count_60 rfl rfl ?_
      refine v_getI C fdX12_67 dX12_count_61 h (fun y5 h => ?_)
      exact v_iret C dX12_count_64 rfl (Option.some.inj h)
    · refine ⟨65, by cases ho; rfl, ?_⟩
      rw [if_neg (by rw [hx]; decide)] at h
      rw [if_pos hx] at h
      refine v_aload_n C 0 dX12_count_65 rfl rfl ?_
      refine v_getI C fdX12_76 dX12_count_66 h (fun y6 h => ?_)
      exact v_iret C dX12_count_69 rfl (Option.some.inj h)
    · refine ⟨70, by cases ho; rfl, ?_⟩
      rw [if_neg (by rw [hx]; decide)] at h
      rw [if_neg (by rw [hx]; decide)] at h
      rw [if_pos hx] at h
      refine v_iload_n C 2 dX12_count_70 rfl rfl ?_
      exact v_iret C dX12_count_71 rfl (Option.some.inj h)
    · refine ⟨72, by cases ho; rfl, ?_⟩
      rw [if_neg (by rw [hx]; decide)] at h
      rw [if_neg (by rw [hx]; decide)] at h
      rw [if_neg (by rw [hx]; decide)] at h
      rw [if_pos hx] at h
      refine v_aload_n C 0 dX12_count_72 rfl rfl ?_
      refine v_getI C fdX12_88 dX12_count_73 h (fun y7 h => ?_)
      exact v_iret C dX12_count_76 rfl (Option.some.inj h)
    · refine ⟨77, by cases ho; rfl, ?_⟩
      rw [if_neg (by rw [hx]; decide)] at h
      rw [if_neg (by rw [hx]; decide)] at h
      rw [if_neg (by rw [hx]; decide)] at h
      rw [if_neg (by rw [hx]; decide)] at h
      rw [if_pos hx] at h
      refine v_aload_n C 0 dX12_count_77 rfl rfl ?_
      refine v_getI C fdX12_91 dX12_count_78 h (fun y8 h => ?_)
      exact v_iret C dX12_count_81 rfl (Option.some.inj h)
  · rw [if_neg (hx 0 (by decide))] at h
    rw [if_neg (hx 1 (by decide))] at h
    rw [if_neg (hx 2 (by decide))] at h
    rw [if_neg (hx 3 (by decide))] at h
    rw [if_neg (hx 4 (by decide))] at h
    refine v_bipush C (-3 : Int32) dX12_count_82 (by decide) ?_
    exact v_iret C dX12_count_84 rfl (Option.some.inj h)
set_option maxRecDepth 100000 in
set_option maxHeartbeats 4000000 in
theorem mX12_matches {l : Launch} {D : UD} {bs : Nat} {a0 : Nat} {x1 : Int32} {x2 : Int32} {x3 : Int32} {x4 : Int32} {u0 : UH} {r : Int32} (h : fX12_matches a0 x1 x2 x3 x4 u0 = some r) : Met l yX12_matches (wz yX12_matches cX12_matches 5 (some .boolean)) rmX12_matches (va_Pc [.ref (bs + a0), .int x1, .int x2, .int x3, .int x4] (uIn D bs u0)) (uQi D bs u0 u0 r) 0 0 (uA bs u0) := by
  refine uMet (by decide) (Nat.le_of_ble_eq_true rfl) ?_
  intro X tw hX C hin
  have C : uCx X D bs tw cX12_matches 5 RX12 (some .boolean) := C
  have hin : X.2.2.2.2.2.2.2.1.name = "matches" := hin
  refine v_L [(0, .ref (bs + a0)), (1, .int x1), (2, .int x2), (3, .int x3), (4, .int x4)] rfl ?_
  unfold fX12_matches at h
  refine v_aload_n C 0 dX12_matches_0 rfl rfl ?_
  refine v_iload_n C 1 dX12_matches_1 rfl rfl ?_
  refine v_iload_n C 2 dX12_matches_2 rfl rfl ?_
  refine v_bipush C (6 : Int32) dX12_matches_3 (by decide) ?_
  obtain ⟨y1, h1, h⟩ := ob_some h
  obtain ⟨hkd, h1⟩ := kd_some h1
  refine v_goi (rn_V C gcX12_114 (RX12, TX12, 33) rfl rfl (by decide) hkd (mX12_of h1) ⟨rfl, rfl⟩ rfl ⟨Nat.le_of_ble_eq_true rfl, Nat.le_of_ble_eq_true rfl⟩ (rest := []) rfl (Nat.le_of_ble_eq_true rfl) ⟨Nat.le_of_ble_eq_true rfl, Nat.le_of_ble_eq_true rfl⟩ dX12_matches_5) ?_
  refine v_iconst C (1 : Int32) dX12_matches_8 (by decide) ?_
  refine v_icmpne C 51 dX12_matches_9 (by decide) h (fun _ h => ?_) (fun _ h => ?_)
  · refine v_iconst C (0 : Int32) dX12_matches_51 (by decide) ?_
    exact v_zret C dX12_matches_52 rfl (Option.some.inj h) rfl
  · refine v_aload_n C 0 dX12_matches_12 rfl rfl ?_
    refine v_iload_n C 1 dX12_matches_13 rfl rfl ?_
    refine v_iload_n C 2 dX12_matches_14 rfl rfl ?_
    refine v_iconst C (0 : Int32) dX12_matches_15 (by decide) ?_
    obtain ⟨y2, h1, h⟩ := ob_some h
    obtain ⟨hkd, h1⟩ := kd_some h1
    refine v_goi (rn_V C gcX12_114 (RX12, TX12, 33) rfl rfl (by decide) hkd (mX12_of h1) ⟨rfl, rfl⟩ rfl ⟨Nat.le_of_ble_eq_true rfl, Nat.le_of_ble_eq_true rfl⟩ (rest := []) rfl (Nat.le_of_ble_eq_true rfl) ⟨Nat.le_of_ble_eq_true rfl, Nat.le_of_ble_eq_true rfl⟩ dX12_matches_16) ?_
    refine v_iload_n C 3 dX12_matches_19 rfl rfl ?_
    refine v_ishr C dX12_matches_20 ?_
    refine v_iconst C (1 : Int32) dX12_matches_21 (by decide) ?_
    refine v_iand C dX12_matches_22 ?_
    refine v_iconst C (1 : Int32) dX12_matches_23 (by decide) ?_
    refine v_icmpne C 51 dX12_matches_24 (by decide) h (fun _ h => ?_) (fun _ h => ?_)
    · refine v_iconst C (0 : Int32) dX12_matches_51 (by decide) ?_
      exact v_zret C dX12_matches_52 rfl (Option.some.inj h) rfl
    · refine v_iload C 4 dX12_matches_27 rfl ?_
      refine v_aload_n C 0 dX12_matches_29 rfl rfl ?_
      refine v_iload_n C 1 dX12_matches_30 rfl rfl ?_
      refine v_iload_n C 2 dX12_matches_31 rfl rfl ?_
      refine v_iconst C (1 : Int32) dX12_matches_32 (by decide) ?_
      obtain ⟨y3, h1, h⟩ := ob_some h
      obtain ⟨hkd, h1⟩ := kd_some h1
      refine v_goi (rn_V C gcX12_114 (RX12, TX12, 33) rfl rfl (by decide) hkd (mX12_of h1) ⟨rfl, rfl⟩ rfl ⟨Nat.le_of_ble_eq_true rfl, Nat.le_of_ble_eq_true rfl⟩ (rest := [.int x4]) rfl (Nat.le_of_ble_eq_true rfl) ⟨Nat.le_of_ble_eq_true rfl, Nat.le_of_ble_eq_true rfl⟩ dX12_matches_33) ?_
      refine v_iand C dX12_matches_36 ?_
      refine v_aload_n C 0 dX12_matches_37 rfl rfl ?_
      refine v_iload_n C 1 dX12_matches_38 rfl rfl ?_
      refine v_iload_n C 2 dX12_matches_39 rfl rfl ?_
      refine v_iconst C (2 : Int32) dX12_matches_40 (by decide) ?_
      obtain ⟨y4, h1, h⟩ := ob_some h
      obtain ⟨hkd, h1⟩ := kd_some h1
      refine v_goi (rn_V C gcX12_114 (RX12, TX12, 33) rfl rfl (by decide) hkd (mX12_of h1) ⟨rfl, rfl⟩ rfl ⟨Nat.le_of_ble_eq_true rfl, Nat.le_of_ble_eq_true rfl⟩ (rest := [.int (x4 &&& y3)]) rfl (Nat.le_of_ble_eq_true rfl) ⟨Nat.le_of_ble_eq_true rfl, Nat.le_of_ble_eq_true rfl⟩ dX12_matches_41) ?_
      refine v_icmpne C 51 dX12_matches_44 (by decide) h (fun _ h => ?_) (fun _ h => ?_)
      · refine v_iconst C (0 : Int32) dX12_matches_51 (by decide) ?_
        exact v_zret C dX12_matches_52 rfl (Option.some.inj h) rfl
      · refine v_iconst C (1 : Int32) dX12_matches_47 (by decide) ?_
        refine v_goto C 52 dX12_matches_48 (by decide) ?_
        exact v_zret C dX12_matches_52 rfl (Option.some.inj h) rfl
set_option maxRecDepth 100000 in
set_option maxHeartbeats 4000000 in
theorem wX12_handler_B3 {X : UX} {D : UD} {bs tw : Nat} {u0 : UH} {r : Int32} (C : uCx X D bs tw cX12_handler 5 RX12 (some .int)) (hin : X.2.2.2.2.2.2.2.1.name = "handler") {a0 : Nat} {x1 : Int32} {x2 : Int32} {x3 : Int32}  {G : (Unit ⊕ Int32) → Prop} {k : Int32 → Option (Unit ⊕ Int32)} (hk : ∀ (x4 : Int32)  e, k x4  = some e → G e → VV X D bs u0 rmX12_handler 5 0 0 (MQ X.2.2.2.2.2.2.1 (uQi D bs u0 u0 r) X.2.2.2.2.2.1 X.2.2.2.1 0 0 (uA bs u0)) u0 3 [(0, .ref (bs + a0)), (1, .int x1), (2, .int x2), (3, .int x3), (4, .int x4)] []) (hex : G (Sum.inl ()) → VV X D bs u0 rmX12_handler 5 0 0 (MQ X.2.2.2.2.2.2.1 (uQi D bs u0 u0 r) X.2.2.2.2.2.1 X.2.2.2.1 0 0 (uA bs u0)) u0 34 [] []) (hret : ∀ x, G (Sum.inr x) → x = r) : ∀ (x4 : Int32)  e, fX12_handler_B3 a0 x1 x2 x3 u0 k x4  = some e → G e → VV X D bs u0 rmX12_handler 5 0 0 (MQ X.2.2.2.2.2.2.1 (uQi D bs u0 u0 r) X.2.2.2.2.2.1 X.2.2.2.1 0 0 (uA bs u0)) u0 3 [(0, .ref (bs + a0)), (1, .int x1), (2, .int x2), (3, .int x3), (4, .int x4)] [] := by
  intro x4  e h g
  unfold fX12_handler_B3 at h
  refine v_iload C 4 dX12_handler_3 rfl ?_
  refine v_aload_n C 0 dX12_handler_5 rfl rfl ?_
  refine v_iload_n C 1 dX12_handler_6 rfl rfl ?_
  obtain ⟨y1, h1, h⟩ := ob_some h
  obtain ⟨hkd, h1⟩ := kd_some h1
  refine v_goi (rn_V C gcX12_110 (RX12, TX12, 33) rfl rfl (by decide) hkd (mX12_many h1) ⟨rfl, rfl⟩ rfl ⟨Nat.le_of_ble_eq_true rfl, Nat.le_of_ble_eq_true rfl⟩ (rest := [.int x4]) rfl (Nat.le_of_ble_eq_true rfl) ⟨Nat.le_of_ble_eq_true rfl, Nat.le_of_ble_eq_true rfl⟩ dX12_handler_7) ?_
  refine v_icmpge C 34 dX12_handler_10 (by decide) h (fun _ h => ?_) (fun _ h => ?_)
  · refine v_sub [] [] rfl ?_
    exact hex ((Option.some.inj h).symm ▸ g)
  · refine v_aload_n C 0 dX12_handler_13 rfl rfl ?_
    refine v_iload_n C 1 dX12_handler_14 rfl rfl ?_
    refine v_iload C 4 dX12_handler_15 rfl ?_
    refine v_iload_n C 2 dX12_handler_17 rfl rfl ?_
    refine v_iload_n C 3 dX12_handler_18 rfl rfl ?_
    obtain ⟨y2, h1, h⟩ := ob_some h
    obtain ⟨hkd, h1⟩ := kd_some h1
    refine v_goi (rn_V C gcX12_146 (RX12, TX12, 33) rfl rfl (by decide) hkd (mX12_matches h1) ⟨rfl, rfl⟩ rfl ⟨Nat.le_of_ble_eq_true rfl, Nat.le_of_ble_eq_true rfl⟩ (rest := []) rfl (Nat.le_of_ble_eq_true rfl) ⟨Nat.le_of_ble_eq_true rfl, Nat.le_of_ble_eq_true rfl⟩ dX12_handler_19) ?_
    refine v_ifeq C 28 dX12_handler_22 (by decide) h (fun _ h => ?_) (fun _ h => ?_)
    · refine v_iinc C 4 (x4 + (1 : Int32)) [(4, .int (x4 + (1 : Int32))), (0, .ref (bs + a0)), (1, .int x1), (2, .int x2), (3, .int x3)] dX12_handler_28 rfl rfl (by decide) rfl ?_
      refine v_goto C 3 dX12_handler_31 (by decide) ?_
      refine v_sub [(0, .ref (bs + a0)), (1, .int x1), (2, .int x2), (3, .int x3), (4, .int (x4 + (1 : Int32)))] [1, 2, 3, 4, 0] rfl ?_
      exact hk (x4 + (1 : Int32)) _ h g
    · refine v_iload C 4 dX12_handler_25 rfl ?_
      have h := hret x4 ((Option.some.inj h).symm ▸ g)
      exact v_iret C dX12_handler_27 rfl h
set_option maxRecDepth 100000 in
set_option maxHeartbeats 4000000 in
theorem mX12_handler {l : Launch} {D : UD} {bs : Nat} {a0 : Nat} {x1 : Int32} {x2 : Int32} {x3 : Int32} {u0 : UH} {r : Int32} (h : fX12_handler a0 x1 x2 x3 u0 = some r) : Met l yX12_handler (wz yX12_handler cX12_handler 5 (some .int)) rmX12_handler (va_Pc [.ref (bs + a0), .int x1, .int x2, .int x3] (uIn D bs u0)) (uQi D bs u0 u0 r) 0 0 (uA bs u0) := by
  refine uMet (by decide) (Nat.le_of_ble_eq_true rfl) ?_
  intro X tw hX C hin
  have C : uCx X D bs tw cX12_handler 5 RX12 (some .int) := C
  have hin : X.2.2.2.2.2.2.2.1.name = "handler" := hin
  refine v_L [(0, .ref (bs + a0)), (1, .int x1), (2, .int x2), (3, .int x3)] rfl ?_
  unfold fX12_handler at h
  refine v_iconst C (0 : Int32) dX12_handler_0 (by decide) ?_
  refine v_istore C [(4, .int (0 : Int32)), (0, .ref (bs + a0)), (1, .int x1), (2, .int x2), (3, .int x3)] dX12_handler_1 (by decide) rfl ?_
  refine v_sub [(0, .ref (bs + a0)), (1, .int x1), (2, .int x2), (3, .int x3), (4, .int (0 : Int32))] [1, 2, 3, 4, 0] rfl ?_
  refine it1_S (V := fun x4 => VV X D bs u0 rmX12_handler 5 0 0 (MQ X.2.2.2.2.2.2.1 (uQi D bs u0 u0 r) X.2.2.2.2.2.1 X.2.2.2.1 0 0 (uA bs u0)) u0 3 [(0, .ref (bs + a0)), (1, .int x1), (2, .int x2), (3, .int x3), (4, .int x4)] []) h (fun k_ hk_ => wX12_handler_B3 C hin hk_ ?_ (fun x hx => Option.some.inj (show some x = some _ from hx)))
  intro h
  try dsimp only [Sum.elim_inl] at h
  refine v_iconst C (-1 : Int32) dX12_handler_34 (by decide) ?_
  exact v_iret C dX12_handler_35 rfl (Option.some.inj h)
set_option maxRecDepth 100000 in
set_option maxHeartbeats 4000000 in
theorem wX12_shadowed_B13 {X : UX} {D : UD} {bs tw : Nat} {u0 : UH} {r : Int32} (C : uCx X D bs tw cX12_shadowed 6 RX12 (some .int)) (hin : X.2.2.2.2.2.2.2.1.name = "shadowed") {a0 : Nat} {x1 : Int32}  {G : Int32 → Prop} {k : Int32 → Int32 → Option Int32} (hk : ∀ (x2 : Int32) (x3 : Int32)  e, k x2 x3  = some e → G e → VV X D bs u0 rmX12_shadowed 6 0 0 (MQ X.2.2.2.2.2.2.1 (uQi D bs u0 u0 r) X.2.2.2.2.2.1 X.2.2.2.1 0 0 (uA bs u0)) u0 13 [(0, .ref (bs + a0)), (1, .int x1), (2, .int x2), (3, .int x3)] []) (hex : ∀ (x2 : Int32) , G x2 → VV X D bs u0 rmX12_shadowed 6 0 0 (MQ X.2.2.2.2.2.2.1 (uQi D bs u0 u0 r) X.2.2.2.2.2.1 X.2.2.2.1 0 0 (uA bs u0)) u0 41 [(0, .ref (bs + a0)), (1, .int x1), (2, .int x2)] [])  : ∀ (x2 : Int32) (x3 : Int32)  e, fX12_shadowed_B13 a0 x1 u0 k x2 x3  = some e → G e → VV X D bs u0 rmX12_shadowed 6 0 0 (MQ X.2.2.2.2.2.2.1 (uQi D bs u0 u0 r) X.2.2.2.2.2.1 X.2.2.2.1 0 0 (uA bs u0)) u0 13 [(0, .ref (bs + a0)), (1, .int x1), (2, .int x2), (3, .int x3)] [] := by
  intro x2 x3  e h g
  unfold fX12_shadowed_B13 at h
  refine v_iload_n C 3 dX12_shadowed_13 rfl rfl ?_
  refine v_aload_n C 0 dX12_shadowed_14 rfl rfl ?_
  refine v_iload_n C 1 dX12_shadowed_15 rfl rfl ?_
  obtain ⟨y2, h1, h⟩ := ob_some h
  obtain ⟨hkd, h1⟩ := kd_some h1
  refine v_goi (rn_V C gcX12_110 (RX12, TX12, 33) rfl rfl (by decide) hkd (mX12_many h1) ⟨rfl, rfl⟩ rfl ⟨Nat.le_of_ble_eq_true rfl, Nat.le_of_ble_eq_true rfl⟩ (rest := [.int x3]) rfl (Nat.le_of_ble_eq_true rfl) ⟨Nat.le_of_ble_eq_true rfl, Nat.le_of_ble_eq_true rfl⟩ dX12_shadowed_16) ?_
  refine v_icmpge C 41 dX12_shadowed_19 (by decide) h (fun _ h => ?_) (fun _ h => ?_)
  · refine v_sub [(0, .ref (bs + a0)), (1, .int x1), (2, .int x2)] [0, 1, 2] rfl ?_
    exact hex x2 ((Option.some.inj h).symm ▸ g)
  · refine v_iload_n C 2 dX12_shadowed_22 rfl rfl ?_
    refine v_aload_n C 0 dX12_shadowed_23 rfl rfl ?_
    refine v_iload_n C 1 dX12_shadowed_24 rfl rfl ?_
    refine v_iload_n C 3 dX12_shadowed_25 rfl rfl ?_
    refine v_bipush C (6 : Int32) dX12_shadowed_26 (by decide) ?_
    obtain ⟨y3, h1, h⟩ := ob_some h
    obtain ⟨hkd, h1⟩ := kd_some h1
    refine v_goi (rn_V C gcX12_114 (RX12, TX12, 33) rfl rfl (by decide) hkd (mX12_of h1) ⟨rfl, rfl⟩ rfl ⟨Nat.le_of_ble_eq_true rfl, Nat.le_of_ble_eq_true rfl⟩ (rest := [.int x2]) rfl (Nat.le_of_ble_eq_true rfl) ⟨Nat.le_of_ble_eq_true rfl, Nat.le_of_ble_eq_true rfl⟩ dX12_shadowed_28) ?_
    refine v_iload_n C 3 dX12_shadowed_31 rfl rfl ?_
    refine v_ishl C dX12_shadowed_32 ?_
    refine v_ior C dX12_shadowed_33 ?_
    refine v_lti h (fun y4 h => ?_)
    refine v_istore_n C [(2, .int y4), (0, .ref (bs + a0)), (1, .int x1), (3, .int x3)] dX12_shadowed_34 rfl (by decide) rfl ?_
    refine v_iinc C 3 (x3 + (1 : Int32)) [(3, .int (x3 + (1 : Int32))), (2, .int y4), (0, .ref (bs + a0)), (1, .int x1)] dX12_shadowed_35 rfl rfl (by decide) rfl ?_
    refine v_goto C 13 dX12_shadowed_38 (by decide) ?_
    refine v_sub [(0, .ref (bs + a0)), (1, .int x1), (2, .int y4), (3, .int (x3 + (1 : Int32)))] [2, 3, 1, 0] rfl ?_
    exact hk y4 (x3 + (1 : Int32)) _ h g
set_option maxRecDepth 100000 in
set_option maxHeartbeats 4000000 in
theorem wX12_shadowed_B51 {X : UX} {D : UD} {bs tw : Nat} {u0 : UH} {r : Int32} (C : uCx X D bs tw cX12_shadowed 6 RX12 (some .int)) (hin : X.2.2.2.2.2.2.2.1.name = "shadowed") {a0 : Nat} {x1 : Int32} {x3 : Int32}  {G : Int32 → Prop} {k : Int32 → Int32 → Option Int32} (hk : ∀ (x2 : Int32) (x4 : Int32)  e, k x2 x4  = some e → G e → VV X D bs u0 rmX12_shadowed 6 0 0 (MQ X.2.2.2.2.2.2.1 (uQi D bs u0 u0 r) X.2.2.2.2.2.1 X.2.2.2.1 0 0 (uA bs u0)) u0 51 [(0, .ref (bs + a0)), (1, .int x1), (2, .int x2), (3, .int x3), (4, .int x4)] []) (hex : ∀ (x2 : Int32) , G x2 → VV X D bs u0 rmX12_shadowed 6 0 0 (MQ X.2.2.2.2.2.2.1 (uQi D bs u0 u0 r) X.2.2.2.2.2.1 X.2.2.2.1 0 0 (uA bs u0)) u0 94 [(0, .ref (bs + a0)), (1, .int x1), (2, .int x2), (3, .int x3)] [])  : ∀ (x2 : Int32) (x4 : Int32)  e, fX12_shadowed_B51 a0 x1 x3 u0 k x2 x4  = some e → G e → VV X D bs u0 rmX12_shadowed 6 0 0 (MQ X.2.2.2.2.2.2.1 (uQi D bs u0 u0 r) X.2.2.2.2.2.1 X.2.2.2.1 0 0 (uA bs u0)) u0 51 [(0, .ref (bs + a0)), (1, .int x1), (2, .int x2), (3, .int x3), (4, .int x4)] [] := by
  intro x2 x4  e h g
  unfold fX12_shadowed_B51 at h
  refine v_iload C 4 dX12_shadowed_51 rfl ?_
  refine v_aload_n C 0 dX12_shadowed_53 rfl rfl ?_
  obtain ⟨y7, h1, h⟩ := ob_some h
  obtain ⟨hkd, h1⟩ := kd_some h1
  refine v_goi (rn_V C gcX12_98 (RX12, TX12, 33) rfl rfl (by decide) hkd (mX12_headers h1) ⟨rfl, rfl⟩ rfl ⟨Nat.le_of_ble_eq_true rfl, Nat.le_of_ble_eq_true rfl⟩ (rest := [.int x4]) rfl (Nat.le_of_ble_eq_true rfl) ⟨Nat.le_of_ble_eq_true rfl, Nat.le_of_ble_eq_true rfl⟩ dX12_shadowed_54) ?_
  refine v_icmpge C 94 dX12_shadowed_57 (by decide) h (fun _ h => ?_) (fun _ h => ?_)
  · refine v_sub [(0, .ref (bs + a0)), (1, .int x1), (2, .int x2), (3, .int x3)] [0, 1, 2, 3] rfl ?_
    exact hex x2 ((Option.some.inj h).symm ▸ g)
  · refine v_aload_n C 0 dX12_shadowed_60 rfl rfl ?_
    refine v_iload_n C 1 dX12_shadowed_61 rfl rfl ?_
    refine v_iload_n C 3 dX12_shadowed_62 rfl rfl ?_
    refine v_iload C 4 dX12_shadowed_63 rfl ?_
    obtain ⟨y8, h1, h⟩ := ob_some h
    obtain ⟨hkd, h1⟩ := kd_some h1
    refine v_goi (rn_V C gcX12_150 (RX12, TX12, 33) rfl rfl (by decide) hkd (mX12_handler h1) ⟨rfl, rfl⟩ rfl ⟨Nat.le_of_ble_eq_true rfl, Nat.le_of_ble_eq_true rfl⟩ (rest := []) rfl (Nat.le_of_ble_eq_true rfl) ⟨Nat.le_of_ble_eq_true rfl, Nat.le_of_ble_eq_true rfl⟩ dX12_shadowed_65) ?_
    refine v_istore C [(5, .int y8), (0, .ref (bs + a0)), (1, .int x1), (2, .int x2), (3, .int x3), (4, .int x4)] dX12_shadowed_68 (by decide) rfl ?_
    refine v_iload_n C 3 dX12_shadowed_70 rfl rfl ?_
    refine v_iload C 0 dX12_shadowed_71 rfl ?_
    refine v_ifge C 80 dX12_shadowed_73 (by decide) h (fun _ h => ?_) (fun _ h => ?_)
    · refine v_iconst C (1 : Int32) dX12_shadowed_80 (by decide) ?_
      refine v_iload C 0 dX12_shadowed_81 rfl ?_
      refine v_ishl C dX12_shadowed_83 ?_
      refine v_iconst C (-1 : Int32) dX12_shadowed_84 (by decide) ?_
      refine v_ixor C dX12_shadowed_85 ?_
      refine v_iand C dX12_shadowed_86 ?_
      refine v_lti h (fun y9 h => ?_)
      refine v_istore_n C [(2, .int y9), (5, .int y8), (0, .ref (bs + a0)), (1, .int x1), (3, .int x3), (4, .int x4)] dX12_shadowed_87 rfl (by decide) rfl ?_
      refine v_iinc C 5 (x4 + (1 : Int32)) [(4, .int (x4 + (1 : Int32))), (2, .int y9), (5, .int y8), (0, .ref (bs + a0)), (1, .int x1), (3, .int x3)] dX12_shadowed_88 rfl rfl (by decide) rfl ?_
      refine v_goto C 51 dX12_shadowed_91 (by decide) ?_
      refine v_sub [(0, .ref (bs + a0)), (1, .int x1), (2, .int y9), (3, .int x3), (4, .int (x4 + (1 : Int32)))] [3, 4, 1, 5, 0] rfl ?_
      exact hk y9 (x4 + (1 : Int32)) _ h g
    · refine v_iconst C (-1 : Int32) dX12_shadowed_76 (by decide) ?_
      refine v_goto C 86 dX12_shadowed_77 (by decide) ?_
      refine v_iand C dX12_shadowed_86 ?_
      refine v_lti h (fun y10 h => ?_)
      refine v_istore_n C [(2, .int y10), (5, .int y8), (0, .ref (bs + a0)), (1, .int x1), (3, .int x3), (4, .int x4)] dX12_shadowed_87 rfl (by decide) rfl ?_
      refine v_iinc C 5 (x4 + (1 : Int32)) [(4, .int (x4 + (1 : Int32))), (2, .int y10), (5, .int y8), (0, .ref (bs + a0)), (1, .int x1), (3, .int x3)] dX12_shadowed_88 rfl rfl (by decide) rfl ?_
      refine v_goto C 51 dX12_shadowed_91 (by decide) ?_
      refine v_sub [(0, .ref (bs + a0)), (1, .int x1), (2, .int y10), (3, .int x3), (4, .int (x4 + (1 : Int32)))] [3, 4, 1, 5, 0] rfl ?_
      exact hk y10 (x4 + (1 : Int32)) _ h g
set_option maxRecDepth 100000 in
set_option maxHeartbeats 4000000 in
theorem wX12_shadowed_B43 {X : UX} {D : UD} {bs tw : Nat} {u0 : UH} {r : Int32} (C : uCx X D bs tw cX12_shadowed 6 RX12 (some .int)) (hin : X.2.2.2.2.2.2.2.1.name = "shadowed") {a0 : Nat} {x1 : Int32}  {G : Int32 → Prop} {k : Int32 → Int32 → Option Int32} (hk : ∀ (x2 : Int32) (x3 : Int32)  e, k x2 x3  = some e → G e → VV X D bs u0 rmX12_shadowed 6 0 0 (MQ X.2.2.2.2.2.2.1 (uQi D bs u0 u0 r) X.2.2.2.2.2.1 X.2.2.2.1 0 0 (uA bs u0)) u0 43 [(0, .ref (bs + a0)), (1, .int x1), (2, .int x2), (3, .int x3)] []) (hex : ∀ (x2 : Int32) , G x2 → VV X D bs u0 rmX12_shadowed 6 0 0 (MQ X.2.2.2.2.2.2.1 (uQi D bs u0 u0 r) X.2.2.2.2.2.1 X.2.2.2.1 0 0 (uA bs u0)) u0 100 [(2, .int x2)] [])  : ∀ (x2 : Int32) (x3 : Int32)  e, fX12_shadowed_B43 a0 x1 u0 k x2 x3  = some e → G e → VV X D bs u0 rmX12_shadowed 6 0 0 (MQ X.2.2.2.2.2.2.1 (uQi D bs u0 u0 r) X.2.2.2.2.2.1 X.2.2.2.1 0 0 (uA bs u0)) u0 43 [(0, .ref (bs + a0)), (1, .int x1), (2, .int x2), (3, .int x3)] [] := by
  intro x2 x3  e h g
  unfold fX12_shadowed_B43 at h
  refine v_iload_n C 3 dX12_shadowed_43 rfl rfl ?_
  refine v_iconst C (4 : Int32) dX12_shadowed_44 (by decide) ?_
  refine v_icmpge C 100 dX12_shadowed_45 (by decide) h (fun _ h => ?_) (fun _ h => ?_)
  · refine v_sub [(2, .int x2)] [2] rfl ?_
    exact hex x2 ((Option.some.inj h).symm ▸ g)
  · refine v_iconst C (0 : Int32) dX12_shadowed_48 (by decide) ?_
    refine v_istore C [(4, .int (0 : Int32)), (0, .ref (bs + a0)), (1, .int x1), (2, .int x2), (3, .int x3)] dX12_shadowed_49 (by decide) rfl ?_
    refine v_sub [(0, .ref (bs + a0)), (1, .int x1), (2, .int x2), (3, .int x3), (4, .int (0 : Int32))] [1, 2, 3, 4, 0] rfl ?_
    refine it2_O (V := fun x2 x4 => VV X D bs u0 rmX12_shadowed 6 0 0 (MQ X.2.2.2.2.2.2.1 (uQi D bs u0 u0 r) X.2.2.2.2.2.1 X.2.2.2.1 0 0 (uA bs u0)) u0 51 [(0, .ref (bs + a0)), (1, .int x1), (2, .int x2), (3, .int x3), (4, .int x4)] []) h (fun k_ hk_ => wX12_shadowed_B51 C hin hk_ ?_ )
    intro z12 h
    try dsimp only [Sum.elim_inl] at h
    refine v_iinc C 3 (x3 + (1 : Int32)) [(3, .int (x3 + (1 : Int32))), (0, .ref (bs + a0)), (1, .int x1), (2, .int z12)] dX12_shadowed_94 rfl rfl (by decide) rfl ?_
    refine v_goto C 43 dX12_shadowed_97 (by decide) ?_
    refine v_sub [(0, .ref (bs + a0)), (1, .int x1), (2, .int z12), (3, .int (x3 + (1 : Int32)))] [1, 2, 3, 0] rfl ?_
    exact hk z12 (x3 + (1 : Int32)) _ h g
set_option maxRecDepth 100000 in
set_option maxHeartbeats 4000000 in
theorem mX12_shadowed {l : Launch} {D : UD} {bs : Nat} {a0 : Nat} {x1 : Int32} {u0 : UH} {r : Int32} (h : fX12_shadowed a0 x1 u0 = some r) : Met l yX12_shadowed (wz yX12_shadowed cX12_shadowed 6 (some .int)) rmX12_shadowed (va_Pc [.ref (bs + a0), .int x1] (uIn D bs u0)) (uQi D bs u0 u0 r) 0 0 (uA bs u0) := by
  refine uMet (by decide) (Nat.le_of_ble_eq_true rfl) ?_
  intro X tw hX C hin
  have C : uCx X D bs tw cX12_shadowed 6 RX12 (some .int) := C
  have hin : X.2.2.2.2.2.2.2.1.name = "shadowed" := hin
  refine v_L [(0, .ref (bs + a0)), (1, .int x1)] rfl ?_
  unfold fX12_shadowed at h
  refine v_iload_n C 1 dX12_shadowed_0 rfl rfl ?_
  obtain ⟨y1, h1, h⟩ := ob_some h
  refine v_goi (rn_S C gcX12_102 (mX12_noBox h1) ⟨rfl, rfl⟩ rfl ⟨Nat.le_of_ble_eq_true rfl, Nat.le_of_ble_eq_true rfl⟩ (rest := []) rfl (Nat.le_of_ble_eq_true rfl) ⟨Nat.le_of_ble_eq_true rfl, Nat.le_of_ble_eq_true rfl⟩ dX12_shadowed_1) ?_
  refine v_ifeq C 9 dX12_shadowed_4 (by decide) h (fun _ h => ?_) (fun _ h => ?_)
  · refine v_iconst C (0 : Int32) dX12_shadowed_9 (by decide) ?_
    refine v_istore_n C [(2, .int (0 : Int32)), (0, .ref (bs + a0)), (1, .int x1)] dX12_shadowed_10 rfl (by decide) rfl ?_
    refine v_iconst C (0 : Int32) dX12_shadowed_11 (by decide) ?_
    refine v_istore_n C [(3, .int (0 : Int32)), (2, .int (0 : Int32)), (0, .ref (bs + a0)), (1, .int x1)] dX12_shadowed_12 rfl (by decide) rfl ?_
    refine v_sub [(0, .ref (bs + a0)), (1, .int x1), (2, .int (0 : Int32)), (3, .int (0 : Int32))] [2, 3, 1, 0] rfl ?_
    refine it2_O (V := fun x2 x3 => VV X D bs u0 rmX12_shadowed 6 0 0 (MQ X.2.2.2.2.2.2.1 (uQi D bs u0 u0 r) X.2.2.2.2.2.1 X.2.2.2.1 0 0 (uA bs u0)) u0 13 [(0, .ref (bs + a0)), (1, .int x1), (2, .int x2), (3, .int x3)] []) h (fun k_ hk_ => wX12_shadowed_B13 C hin hk_ ?_ )
    intro z6 h
    try dsimp only [Sum.elim_inl] at h
    refine v_iconst C (0 : Int32) dX12_shadowed_41 (by decide) ?_
    refine v_istore_n C [(3, .int (0 : Int32)), (0, .ref (bs + a0)), (1, .int x1), (2, .int z6)] dX12_shadowed_42 rfl (by decide) rfl ?_
    refine v_sub [(0, .ref (bs + a0)), (1, .int x1), (2, .int z6), (3, .int (0 : Int32))] [1, 2, 3, 0] rfl ?_
    refine it2_O (V := fun x2 x3 => VV X D bs u0 rmX12_shadowed 6 0 0 (MQ X.2.2.2.2.2.2.1 (uQi D bs u0 u0 r) X.2.2.2.2.2.1 X.2.2.2.1 0 0 (uA bs u0)) u0 43 [(0, .ref (bs + a0)), (1, .int x1), (2, .int x2), (3, .int x3)] []) h (fun k_ hk_ => wX12_shadowed_B43 C hin hk_ ?_ )
    intro z8 h
    try dsimp only [Sum.elim_inl] at h
    refine v_iload_n C 0 dX12_shadowed_100 rfl rfl ?_
    exact v_iret C dX12_shadowed_101 rfl (Option.some.inj h)
  · refine v_iconst C (-1 : Int32) dX12_shadowed_7 (by decide) ?_
    exact v_iret C dX12_shadowed_8 rfl (Option.some.inj h)
set_option maxRecDepth 100000 in
set_option maxHeartbeats 4000000 in
theorem mX12_isInjected {l : Launch} {D : UD} {bs : Nat} {a0 : Nat} {x1 : Int32} {u0 : UH} {r : Int32} (h : fX12_isInjected a0 x1 u0 = some r) : Met l yX12_isInjected (wz yX12_isInjected cX12_isInjected 2 (some .boolean)) rmX12_isInjected (va_Pc [.ref (bs + a0), .int x1] (uIn D bs u0)) (uQi D bs u0 u0 r) 0 0 (uA bs u0) := by
  refine uMet (by decide) (Nat.le_of_ble_eq_true rfl) ?_
  intro X tw hX C hin
  have C : uCx X D bs tw cX12_isInjected 2 RX12 (some .boolean) := C
  have hin : X.2.2.2.2.2.2.2.1.name = "isInjected" := hin
  refine v_L [(0, .ref (bs + a0)), (1, .int x1)] rfl ?_
  unfold fX12_isInjected at h
  refine v_aload_n C 0 dX12_isInjected_0 rfl rfl ?_
  refine v_iload_n C 1 dX12_isInjected_1 rfl rfl ?_
  obtain ⟨y1, h1, h⟩ := ob_some h
  obtain ⟨hkd, h1⟩ := kd_some h1
  refine v_goi (rn_V C gcX12_122 (RX12, TX12, 33) rfl rfl (by decide) hkd (mX12_noHeader h1) ⟨rfl, rfl⟩ rfl ⟨Nat.le_of_ble_eq_true rfl, Nat.le_of_ble_eq_true rfl⟩ (rest := []) rfl (Nat.le_of_ble_eq_true rfl) ⟨Nat.le_of_ble_eq_true rfl, Nat.le_of_ble_eq_true rfl⟩ dX12_isInjected_2) ?_
  refine v_ifne C 25 dX12_isInjected_5 (by decide) h (fun _ h => ?_) (fun _ h => ?_)
  · refine v_iconst C (0 : Int32) dX12_isInjected_25 (by decide) ?_
    exact v_zret C dX12_isInjected_26 rfl (Option.some.inj h) rfl
  · refine v_iload_n C 1 dX12_isInjected_8 rfl rfl ?_
    refine v_aload_n C 0 dX12_isInjected_9 rfl rfl ?_
    refine v_getI C fdX12_82 dX12_isInjected_10 h (fun y2 h => ?_)
    refine v_iand C dX12_isInjected_13 ?_
    refine v_aload_n C 0 dX12_isInjected_14 rfl rfl ?_
    refine v_getI C fdX12_85 dX12_isInjected_15 h (fun y3 h => ?_)
    refine v_icmpne C 25 dX12_isInjected_18 (by decide) h (fun _ h => ?_) (fun _ h => ?_)
    · refine v_iconst C (0 : Int32) dX12_isInjected_25 (by decide) ?_
      exact v_zret C dX12_isInjected_26 rfl (Option.some.inj h) rfl
    · refine v_iconst C (1 : Int32) dX12_isInjected_21 (by decide) ?_
      refine v_goto C 26 dX12_isInjected_22 (by decide) ?_
      exact v_zret C dX12_isInjected_26 rfl (Option.some.inj h) rfl
set_option maxRecDepth 100000 in
set_option maxHeartbeats 4000000 in
theorem wX12_injected_B4 {X : UX} {D : UD} {bs tw : Nat} {u0 : UH} {r : Int64} (C : uCx X D bs tw cX12_injected 4 RX12 (some .long)) (hin : X.2.2.2.2.2.2.2.1.name = "injected") {a0 : Nat}  {G : Int64 → Prop} {k : Int64 → Int32 → Option Int64} (hk : ∀ (x1 : Int64) (x3 : Int32)  e, k x1 x3  = some e → G e → VV X D bs u0 rmX12_injected 4 0 0 (MQ X.2.2.2.2.2.2.1 (uQl D bs u0 u0 r) X.2.2.2.2.2.1 X.2.2.2.1 0 0 (uA bs u0)) u0 4 [(0, .ref (bs + a0)), (1, .long x1), (3, .int x3)] []) (hex : ∀ (x1 : Int64) , G x1 → VV X D bs u0 rmX12_injected 4 0 0 (MQ X.2.2.2.2.2.2.1 (uQl D bs u0 u0 r) X.2.2.2.2.2.1 X.2.2.2.1 0 0 (uA bs u0)) u0 36 [(1, .long x1)] [])  : ∀ (x1 : Int64) (x3 : Int32)  e, fX12_injected_B4 a0 u0 k x1 x3  = some e → G e → VV X D bs u0 rmX12_injected 4 0 0 (MQ X.2.2.2.2.2.2.1 (uQl D bs u0 u0 r) X.2.2.2.2.2.1 X.2.2.2.1 0 0 (uA bs u0)) u0 4 [(0, .ref (bs + a0)), (1, .long x1), (3, .int x3)] [] := by
  intro x1 x3  e h g
  unfold fX12_injected_B4 at h
  refine v_iload_n C 2 dX12_injected_4 rfl rfl ?_
  refine v_aload_n C 0 dX12_injected_5 rfl rfl ?_
  obtain ⟨y1, h1, h⟩ := ob_some h
  obtain ⟨hkd, h1⟩ := kd_some h1
  refine v_goi (rn_V C gcX12_98 (RX12, TX12, 33) rfl rfl (by decide) hkd (mX12_headers h1) ⟨rfl, rfl⟩ rfl ⟨Nat.le_of_ble_eq_true rfl, Nat.le_of_ble_eq_true rfl⟩ (rest := [.int x3]) rfl (Nat.le_of_ble_eq_true rfl) ⟨Nat.le_of_ble_eq_true rfl, Nat.le_of_ble_eq_true rfl⟩ dX12_injected_6) ?_
  refine v_icmpge C 36 dX12_injected_9 (by decide) h (fun _ h => ?_) (fun _ h => ?_)
  · refine v_sub [(1, .long x1)] [1] rfl ?_
    exact hex x1 ((Option.some.inj h).symm ▸ g)
  · refine v_lload_n C 1 dX12_injected_12 rfl rfl ?_
    refine v_aload_n C 0 dX12_injected_13 rfl rfl ?_
    refine v_iload_n C 2 dX12_injected_14 rfl rfl ?_
    obtain ⟨y2, h1, h⟩ := ob_some h
    obtain ⟨hkd, h1⟩ := kd_some h1
    refine v_goi (rn_V C gcX12_153 (RX12, TX12, 33) rfl rfl (by decide) hkd (mX12_isInjected h1) ⟨rfl, rfl⟩ rfl ⟨Nat.le_of_ble_eq_true rfl, Nat.le_of_ble_eq_true rfl⟩ (rest := [.long x1]) rfl (Nat.le_of_ble_eq_true rfl) ⟨Nat.le_of_ble_eq_true rfl, Nat.le_of_ble_eq_true rfl⟩ dX12_injected_15) ?_
    refine v_ifeq C 27 dX12_injected_18 (by decide) h (fun _ h => ?_) (fun _ h => ?_)
    · refine v_lconst C (0 : Int64) dX12_injected_27 (by decide) ?_
      refine v_lor C dX12_injected_28 ?_
      refine v_ltl h (fun y3 h => ?_)
      refine v_lstore_n C [(1, .long y3), (0, .ref (bs + a0)), (3, .int x3)] dX12_injected_29 rfl (by decide) rfl ?_
      refine v_iinc C 2 (x3 + (1 : Int32)) [(3, .int (x3 + (1 : Int32))), (1, .long y3), (0, .ref (bs + a0))] dX12_injected_30 rfl rfl (by decide) rfl ?_
      refine v_goto C 4 dX12_injected_33 (by decide) ?_
      refine v_sub [(0, .ref (bs + a0)), (1, .long y3), (3, .int (x3 + (1 : Int32)))] [2, 1, 0] rfl ?_
      exact hk y3 (x3 + (1 : Int32)) _ h g
    · refine v_lconst C (1 : Int64) dX12_injected_21 (by decide) ?_
      refine v_iload_n C 2 dX12_injected_22 rfl rfl ?_
      refine v_lshl C dX12_injected_23 ?_
      refine v_goto C 28 dX12_injected_24 (by decide) ?_
      refine v_lor C dX12_injected_28 ?_
      refine v_ltl h (fun y4 h => ?_)
      refine v_lstore_n C [(1, .long y4), (0, .ref (bs + a0)), (3, .int x3)] dX12_injected_29 rfl (by decide) rfl ?_
      refine v_iinc C 2 (x3 + (1 : Int32)) [(3, .int (x3 + (1 : Int32))), (1, .long y4), (0, .ref (bs + a0))] dX12_injected_30 rfl rfl (by decide) rfl ?_
      refine v_goto C 4 dX12_injected_33 (by decide) ?_
      refine v_sub [(0, .ref (bs + a0)), (1, .long y4), (3, .int (x3 + (1 : Int32)))] [2, 1, 0] rfl ?_
      exact hk y4 (x3 + (1 : Int32)) _ h g
set_option maxRecDepth 100000 in
set_option maxHeartbeats 4000000 in
theorem mX12_injected {l : Launch} {D : UD} {bs : Nat} {a0 : Nat} {u0 : UH} {r : Int64} (h : fX12_injected a0 u0 = some r) : Met l yX12_injected (wz yX12_injected cX12_injected 4 (some .long)) rmX12_injected (va_Pc [.ref (bs + a0)] (uIn D bs u0)) (uQl D bs u0 u0 r) 0 0 (uA bs u0) := by
  refine uMet (by decide) (Nat.le_of_ble_eq_true rfl) ?_
  intro X tw hX C hin
  have C : uCx X D bs tw cX12_injected 4 RX12 (some .long) := C
  have hin : X.2.2.2.2.2.2.2.1.name = "injected" := hin
  refine v_L [(0, .ref (bs + a0))] rfl ?_
  unfold fX12_injected at h
  refine v_lconst C (0 : Int64) dX12_injected_0 (by decide) ?_
  refine v_lstore_n C [(1, .long (0 : Int64)), (0, .ref (bs + a0))] dX12_injected_1 rfl (by decide) rfl ?_
  refine v_iconst C (0 : Int32) dX12_injected_2 (by decide) ?_
  refine v_istore_n C [(3, .int (0 : Int32)), (1, .long (0 : Int64)), (0, .ref (bs + a0))] dX12_injected_3 rfl (by decide) rfl ?_
  refine v_sub [(0, .ref (bs + a0)), (1, .long (0 : Int64)), (3, .int (0 : Int32))] [2, 1, 0] rfl ?_
  refine it2_O (V := fun x1 x3 => VV X D bs u0 rmX12_injected 4 0 0 (MQ X.2.2.2.2.2.2.1 (uQl D bs u0 u0 r) X.2.2.2.2.2.1 X.2.2.2.1 0 0 (uA bs u0)) u0 4 [(0, .ref (bs + a0)), (1, .long x1), (3, .int x3)] []) h (fun k_ hk_ => wX12_injected_B4 C hin hk_ ?_ )
  intro z6 h
  try dsimp only [Sum.elim_inl] at h
  refine v_lload_n C 0 dX12_injected_36 rfl rfl ?_
  exact v_lret C dX12_injected_37 rfl (Option.some.inj h)
set_option maxRecDepth 100000 in
set_option maxHeartbeats 4000000 in
theorem mX12_rewritten {l : Launch} {D : UD} {bs : Nat} {a0 : Nat} {x1 : Int32} {x2 : Int32} {x3 : Int32} {u0 : UH} {r : Int32} (h : fX12_rewritten a0 x1 x2 x3 u0 = some r) : Met l yX12_rewritten (wz yX12_rewritten cX12_rewritten 4 (some .int)) rmX12_rewritten (va_Pc [.ref (bs + a0), .int x1, .int x2, .int x3] (uIn D bs u0)) (uQi D bs u0 u0 r) 0 0 (uA bs u0) := by
  refine uMet (by decide) (Nat.le_of_ble_eq_true rfl) ?_
  intro X tw hX C hin
  have C : uCx X D bs tw cX12_rewritten 4 RX12 (some .int) := C
  have hin : X.2.2.2.2.2.2.2.1.name = "rewritten" := hin
  refine v_L [(0, .ref (bs + a0)), (1, .int x1), (2, .int x2), (3, .int x3)] rfl ?_
  unfold fX12_rewritten at h
  refine v_iload_n C 3 dX12_rewritten_0 rfl rfl ?_
  refine v_aload_n C 0 dX12_rewritten_1 rfl rfl ?_
  refine v_iload_n C 1 dX12_rewritten_2 rfl rfl ?_
  refine v_iload_n C 2 dX12_rewritten_3 rfl rfl ?_
  refine v_iconst C (4 : Int32) dX12_rewritten_4 (by decide) ?_
  obtain ⟨y1, h1, h⟩ := ob_some h
  obtain ⟨hkd, h1⟩ := kd_some h1
  refine v_goi (rn_V C gcX12_114 (RX12, TX12, 33) rfl rfl (by decide) hkd (mX12_of h1) ⟨rfl, rfl⟩ rfl ⟨Nat.le_of_ble_eq_true rfl, Nat.le_of_ble_eq_true rfl⟩ (rest := [.int x3]) rfl (Nat.le_of_ble_eq_true rfl) ⟨Nat.le_of_ble_eq_true rfl, Nat.le_of_ble_eq_true rfl⟩ dX12_rewritten_5) ?_
  refine v_iconst C (-1 : Int32) dX12_rewritten_8 (by decide) ?_
  refine v_ixor C dX12_rewritten_9 ?_
  refine v_iand C dX12_rewritten_10 ?_
  refine v_aload_n C 0 dX12_rewritten_11 rfl rfl ?_
  refine v_iload_n C 1 dX12_rewritten_12 rfl rfl ?_
  refine v_iload_n C 2 dX12_rewritten_13 rfl rfl ?_
  refine v_iconst C (5 : Int32) dX12_rewritten_14 (by decide) ?_
  obtain ⟨y2, h1, h⟩ := ob_some h
  obtain ⟨hkd, h1⟩ := kd_some h1
  refine v_goi (rn_V C gcX12_114 (RX12, TX12, 33) rfl rfl (by decide) hkd (mX12_of h1) ⟨rfl, rfl⟩ rfl ⟨Nat.le_of_ble_eq_true rfl, Nat.le_of_ble_eq_true rfl⟩ (rest := [.int (x3 &&& (y1 ^^^ (-1 : Int32)))]) rfl (Nat.le_of_ble_eq_true rfl) ⟨Nat.le_of_ble_eq_true rfl, Nat.le_of_ble_eq_true rfl⟩ dX12_rewritten_15) ?_
  refine v_ior C dX12_rewritten_18 ?_
  exact v_iret C dX12_rewritten_19 rfl (Option.some.inj h)
set_option maxRecDepth 100000 in
set_option maxHeartbeats 4000000 in
theorem wX12_goOn_B36 {X : UX} {D : UD} {bs tw : Nat} {u0 : UH} {v : UH} (C : uCx X D bs tw cX12_goOn 9 RX12 none) (hin : X.2.2.2.2.2.2.2.1.name = "goOn") {a0 : Nat} {x3 : Int32} {x4 : Int32} {x5 : Int64}  {G : UH → Prop} {k : Int32 → UH → Option UH} (hk : ∀ (x7 : Int32) (u' : UH) e, k x7 u' = some e → G e → VV X D bs u0 rmX12_goOn 9 0 0 (MQ X.2.2.2.2.2.2.1 (uQv D bs u0 v) X.2.2.2.2.2.1 X.2.2.2.1 0 0 (uA bs u0)) u' 36 [(0, .ref (bs + a0)), (3, .int x3), (4, .int x4), (5, .long x5), (7, .int x7)] []) (hex : ∀  (u' : UH), G u' → VV X D bs u0 rmX12_goOn 9 0 0 (MQ X.2.2.2.2.2.2.1 (uQv D bs u0 v) X.2.2.2.2.2.1 X.2.2.2.1 0 0 (uA bs u0)) u' 115 [] [])  : ∀ (x7 : Int32) (u : UH) e, fX12_goOn_B36 a0 x3 x4 x5  k x7 u = some e → G e → VV X D bs u0 rmX12_goOn 9 0 0 (MQ X.2.2.2.2.2.2.1 (uQv D bs u0 v) X.2.2.2.2.2.1 X.2.2.2.1 0 0 (uA bs u0)) u 36 [(0, .ref (bs + a0)), (3, .int x3), (4, .int x4), (5, .long x5), (7, .int x7)] [] := by
  intro x7 u e h g
  unfold fX12_goOn_B36 at h
  refine v_iload C 4 dX12_goOn_36 rfl ?_
  refine v_iconst C (4 : Int32) dX12_goOn_38 (by decide) ?_
  refine v_icmpge C 115 dX12_goOn_39 (by decide) h (fun _ h => ?_) (fun _ h => ?_)
  · refine v_sub [] [] rfl ?_
    exact hex u ((Option.some.inj h).symm ▸ g)
  · refine v_aload_n C 0 dX12_goOn_42 rfl rfl ?_
    refine v_iload_n C 1 dX12_goOn_43 rfl rfl ?_
    refine v_iload C 2 dX12_goOn_44 rfl ?_
    refine v_iconst C (3 : Int32) dX12_goOn_46 (by decide) ?_
    obtain ⟨y5, h1, h⟩ := ob_some h
    obtain ⟨hkd, h1⟩ := kd_some h1
    refine v_goi (rn_V C gcX12_114 (RX12, TX12, 33) rfl rfl (by decide) hkd (mX12_of h1) ⟨rfl, rfl⟩ rfl ⟨Nat.le_of_ble_eq_true rfl, Nat.le_of_ble_eq_true rfl⟩ (rest := []) rfl (Nat.le_of_ble_eq_true rfl) ⟨Nat.le_of_ble_eq_true rfl, Nat.le_of_ble_eq_true rfl⟩ dX12_goOn_47) ?_
    refine v_iload C 4 dX12_goOn_50 rfl ?_
    refine v_ishr C dX12_goOn_52 ?_
    refine v_iconst C (1 : Int32) dX12_goOn_53 (by decide) ?_
    refine v_iand C dX12_goOn_54 ?_
    refine v_iconst C (1 : Int32) dX12_goOn_55 (by decide) ?_
    refine v_icmpne C 109 dX12_goOn_56 (by decide) h (fun _ h => ?_) (fun _ h => ?_)
    · refine v_iinc C 4 (x7 + (1 : Int32)) [(7, .int (x7 + (1 : Int32))), (0, .ref (bs + a0)), (3, .int x3), (4, .int x4), (5, .long x5)] dX12_goOn_109 rfl rfl (by decide) rfl ?_
      refine v_goto C 36 dX12_goOn_112 (by decide) ?_
      refine v_sub [(0, .ref (bs + a0)), (3, .int x3), (4, .int x4), (5, .long x5), (7, .int (x7 + (1 : Int32)))] [1, 2, 3, 4, 0] rfl ?_
      exact hk (x7 + (1 : Int32)) u _ h g
    · refine v_iconst C (4 : Int32) dX12_goOn_59 (by decide) ?_
      refine v_iload_n C 1 dX12_goOn_60 rfl rfl ?_
      refine v_imul C dX12_goOn_61 ?_
      refine v_iload C 4 dX12_goOn_62 rfl ?_
      refine v_iadd C dX12_goOn_64 ?_
      refine v_lti h (fun y6 h => ?_)
      refine v_istore C [(8, .int y6), (0, .ref (bs + a0)), (3, .int x3), (4, .int x4), (5, .long x5), (7, .int x7)] dX12_goOn_65 (by decide) rfl ?_
      refine v_aload_n C 1 dX12_goOn_67 rfl rfl ?_
      refine v_getR C fdX12_7 dX12_goOn_68 h (fun b7 h => ?_)
      refine v_iload C 0 dX12_goOn_71 rfl ?_
      refine v_ldI C dX12_goOn_73 h (fun y8 h => ?_)
      refine v_ifge C 92 dX12_goOn_74 (by decide) h (fun _ h => ?_) (fun _ h => ?_)
      · refine v_aload_n C 1 dX12_goOn_92 rfl rfl ?_
        refine v_getR C fdX12_22 dX12_goOn_93 h (fun b9 h => ?_)
        refine v_aload_n C 1 dX12_goOn_96 rfl rfl ?_
        refine v_getR C fdX12_7 dX12_goOn_97 h (fun b10 h => ?_)
        refine v_iload C 0 dX12_goOn_100 rfl ?_
        refine v_ldI C dX12_goOn_102 h (fun y11 h => ?_)
        refine v_dup2 C dX12_goOn_103 rfl rfl ?_
        refine v_ldJ C dX12_goOn_104 h (fun y12 h => ?_)
        refine v_lload C 4 dX12_goOn_105 rfl ?_
        refine v_lor C dX12_goOn_107 ?_
        refine v_stJ C dX12_goOn_108 h (fun u13 h => ?_)
        refine v_iinc C 5 (x7 + (1 : Int32)) [(7, .int (x7 + (1 : Int32))), (8, .int y6), (0, .ref (bs + a0)), (3, .int x3), (4, .int x4), (5, .long x5)] dX12_goOn_109 rfl rfl (by decide) rfl ?_
        refine v_goto C 36 dX12_goOn_112 (by decide) ?_
        refine v_sub [(0, .ref (bs + a0)), (3, .int x3), (4, .int x4), (5, .long x5), (7, .int (x7 + (1 : Int32)))] [2, 3, 4, 5, 0] rfl ?_
        exact hk (x7 + (1 : Int32)) u13 _ h g
      · refine v_aload_n C 1 dX12_goOn_77 rfl rfl ?_
        refine v_getR C fdX12_29 dX12_goOn_78 h (fun b14 h => ?_)
        refine v_iload C 0 dX12_goOn_81 rfl ?_
        refine v_dup2 C dX12_goOn_83 rfl rfl ?_
        refine v_ldJ C dX12_goOn_84 h (fun y15 h => ?_)
        refine v_lload C 4 dX12_goOn_85 rfl ?_
        refine v_lor C dX12_goOn_87 ?_
        refine v_stJ C dX12_goOn_88 h (fun u16 h => ?_)
        refine v_goto C 109 dX12_goOn_89 (by decide) ?_
        refine v_iinc C 5 (x7 + (1 : Int32)) [(7, .int (x7 + (1 : Int32))), (8, .int y6), (0, .ref (bs + a0)), (3, .int x3), (4, .int x4), (5, .long x5)] dX12_goOn_109 rfl rfl (by decide) rfl ?_
        refine v_goto C 36 dX12_goOn_112 (by decide) ?_
        refine v_sub [(0, .ref (bs + a0)), (3, .int x3), (4, .int x4), (5, .long x5), (7, .int (x7 + (1 : Int32)))] [2, 3, 4, 5, 0] rfl ?_
        exact hk (x7 + (1 : Int32)) u16 _ h g
set_option maxRecDepth 100000 in
set_option maxHeartbeats 4000000 in
theorem mX12_goOn {l : Launch} {D : UD} {bs : Nat} {a0 : Nat} {x1 : Int32} {x2 : Int32} {u0 : UH} {v : UH} (h : fX12_goOn a0 x1 x2 u0 = some v) : Met l yX12_goOn (wz yX12_goOn cX12_goOn 9 none) rmX12_goOn (va_Pc [.ref (bs + a0), .int x1, .int x2] (uIn D bs u0)) (uQv D bs u0 v) 0 0 (uA bs u0) := by
  refine uMet (by decide) (Nat.le_of_ble_eq_true rfl) ?_
  intro X tw hX C hin
  have C : uCx X D bs tw cX12_goOn 9 RX12 none := C
  have hin : X.2.2.2.2.2.2.2.1.name = "goOn" := hin
  refine v_L [(0, .ref (bs + a0)), (1, .int x1), (2, .int x2)] rfl ?_
  unfold fX12_goOn at h
  refine v_iload_n C 1 dX12_goOn_0 rfl rfl ?_
  refine v_iconst C (4 : Int32) dX12_goOn_1 (by decide) ?_
  refine v_idiv C dX12_goOn_2 (by decide) ?_
  refine v_lti h (fun y1 h => ?_)
  refine v_istore_n C [(3, .int y1), (0, .ref (bs + a0)), (1, .int x1), (2, .int x2)] dX12_goOn_3 rfl (by decide) rfl ?_
  refine v_aload_n C 1 dX12_goOn_4 rfl rfl ?_
  refine v_iload_n C 0 dX12_goOn_5 rfl rfl ?_
  refine v_iload_n C 2 dX12_goOn_6 rfl rfl ?_
  refine v_iconst C (4 : Int32) dX12_goOn_7 (by decide) ?_
  refine v_irem C dX12_goOn_8 (by decide) ?_
  refine v_iload_n C 3 dX12_goOn_9 rfl rfl ?_
  obtain ⟨y2, h1, h⟩ := ob_some h
  obtain ⟨hkd, h1⟩ := kd_some h1
  refine v_goi (rn_V C gcX12_150 (RX12, TX12, 33) rfl rfl (by decide) hkd (mX12_handler h1) ⟨rfl, rfl⟩ rfl ⟨Nat.le_of_ble_eq_true rfl, Nat.le_of_ble_eq_true rfl⟩ (rest := []) rfl (Nat.le_of_ble_eq_true rfl) ⟨Nat.le_of_ble_eq_true rfl, Nat.le_of_ble_eq_true rfl⟩ dX12_goOn_10) ?_
  refine v_istore C [(4, .int y2), (3, .int y1), (0, .ref (bs + a0)), (1, .int x1), (2, .int x2)] dX12_goOn_13 (by decide) rfl ?_
  refine v_iload C 0 dX12_goOn_15 rfl ?_
  refine v_ifge C 21 dX12_goOn_17 (by decide) h (fun _ h => ?_) (fun _ h => ?_)
  · refine v_lconst C (1 : Int64) dX12_goOn_21 (by decide) ?_
    refine v_aload_n C 2 dX12_goOn_22 rfl rfl ?_
    refine v_iload_n C 1 dX12_goOn_23 rfl rfl ?_
    refine v_iload C 0 dX12_goOn_24 rfl ?_
    refine v_iload_n C 4 dX12_goOn_26 rfl rfl ?_
    obtain ⟨y3, h1, h⟩ := ob_some h
    obtain ⟨hkd, h1⟩ := kd_some h1
    refine v_goi (rn_V C gcX12_156 (RX12, TX12, 33) rfl rfl (by decide) hkd (mX12_rewritten h1) ⟨rfl, rfl⟩ rfl ⟨Nat.le_of_ble_eq_true rfl, Nat.le_of_ble_eq_true rfl⟩ (rest := [.long (1 : Int64)]) rfl (Nat.le_of_ble_eq_true rfl) ⟨Nat.le_of_ble_eq_true rfl, Nat.le_of_ble_eq_true rfl⟩ dX12_goOn_27) ?_
    refine v_lshl C dX12_goOn_30 ?_
    refine v_ltl h (fun y4 h => ?_)
    refine v_lstore C [(5, .long y4), (4, .int y2), (3, .int y1), (0, .ref (bs + a0)), (1, .int x1), (2, .int x2)] dX12_goOn_31 (by decide) rfl ?_
    refine v_iconst C (0 : Int32) dX12_goOn_33 (by decide) ?_
    refine v_istore C [(7, .int (0 : Int32)), (5, .long y4), (4, .int y2), (3, .int y1), (0, .ref (bs + a0)), (1, .int x1), (2, .int x2)] dX12_goOn_34 (by decide) rfl ?_
    refine v_sub [(0, .ref (bs + a0)), (3, .int y1), (4, .int y2), (5, .long y4), (7, .int (0 : Int32))] [4, 3, 2, 1, 0] rfl ?_
    refine it2_O (V := fun x7 u' => VV X D bs u0 rmX12_goOn 9 0 0 (MQ X.2.2.2.2.2.2.1 (uQv D bs u0 v) X.2.2.2.2.2.1 X.2.2.2.1 0 0 (uA bs u0)) u' 36 [(0, .ref (bs + a0)), (3, .int y1), (4, .int y2), (5, .long y4), (7, .int x7)] []) h (fun k_ hk_ => wX12_goOn_B36 C hin hk_ ?_ )
    intro z18 h
    try dsimp only [Sum.elim_inl] at h
    exact v_vret C dX12_goOn_115 (Option.some.inj h)
  · exact v_vret C dX12_goOn_20 (Option.some.inj h)
set_option maxRecDepth 100000 in
set_option maxHeartbeats 4000000 in
theorem wX12_spread_B3 {X : UX} {D : UD} {bs tw : Nat} {u0 : UH} {v : UH} (C : uCx X D bs tw cX12_spread 9 RX12 none) (hin : X.2.2.2.2.2.2.2.1.name = "spread") {a0 : Nat} {x1 : Int32} {x2 : Int64}  {G : UH → Prop} {k : Int32 → UH → Option UH} (hk : ∀ (x4 : Int32) (u' : UH) e, k x4 u' = some e → G e → VV X D bs u0 rmX12_spread 9 0 0 (MQ X.2.2.2.2.2.2.1 (uQv D bs u0 v) X.2.2.2.2.2.1 X.2.2.2.1 0 0 (uA bs u0)) u' 3 [(0, .ref (bs + a0)), (1, .int x1), (2, .long x2), (4, .int x4)] []) (hex : ∀  (u' : UH), G u' → VV X D bs u0 rmX12_spread 9 0 0 (MQ X.2.2.2.2.2.2.1 (uQv D bs u0 v) X.2.2.2.2.2.1 X.2.2.2.1 0 0 (uA bs u0)) u' 40 [(0, .ref (bs + a0)), (1, .int x1), (2, .long x2)] [])  : ∀ (x4 : Int32) (u : UH) e, fX12_spread_B3 a0  k x4 u = some e → G e → VV X D bs u0 rmX12_spread 9 0 0 (MQ X.2.2.2.2.2.2.1 (uQv D bs u0 v) X.2.2.2.2.2.1 X.2.2.2.1 0 0 (uA bs u0)) u 3 [(0, .ref (bs + a0)), (1, .int x1), (2, .long x2), (4, .int x4)] [] := by
  intro x4 u e h g
  unfold fX12_spread_B3 at h
  refine v_iload C 3 dX12_spread_3 rfl ?_
  refine v_bipush C (24 : Int32) dX12_spread_5 (by decide) ?_
  refine v_icmpge C 40 dX12_spread_7 (by decide) h (fun _ h => ?_) (fun _ h => ?_)
  · refine v_sub [(0, .ref (bs + a0)), (1, .int x1), (2, .long x2)] [0, 1, 2] rfl ?_
    exact hex u ((Option.some.inj h).symm ▸ g)
  · refine v_aload_n C 0 dX12_spread_10 rfl rfl ?_
    refine v_getR C fdX12_22 dX12_spread_11 h (fun b1 h => ?_)
    refine v_iload C 3 dX12_spread_14 rfl ?_
    refine v_lconst C (0 : Int64) dX12_spread_16 (by decide) ?_
    refine v_stJ C dX12_spread_17 h (fun u2 h => ?_)
    refine v_aload_n C 0 dX12_spread_18 rfl rfl ?_
    refine v_getR C fdX12_26 dX12_spread_19 h (fun b3 h => ?_)
    refine v_iload C 3 dX12_spread_22 rfl ?_
    refine v_lconst C (0 : Int64) dX12_spread_24 (by decide) ?_
    refine v_stJ C dX12_spread_25 h (fun u4 h => ?_)
    refine v_aload_n C 0 dX12_spread_26 rfl rfl ?_
    refine v_getR C fdX12_29 dX12_spread_27 h (fun b5 h => ?_)
    refine v_iload C 3 dX12_spread_30 rfl ?_
    refine v_lconst C (0 : Int64) dX12_spread_32 (by decide) ?_
    refine v_stJ C dX12_spread_33 h (fun u6 h => ?_)
    refine v_iinc C 3 (x4 + (1 : Int32)) [(4, .int (x4 + (1 : Int32))), (0, .ref (bs + a0)), (1, .int x1), (2, .long x2)] dX12_spread_34 rfl rfl (by decide) rfl ?_
    refine v_goto C 3 dX12_spread_37 (by decide) ?_
    refine v_sub [(0, .ref (bs + a0)), (1, .int x1), (2, .long x2), (4, .int (x4 + (1 : Int32)))] [1, 2, 3, 0] rfl ?_
    exact hk (x4 + (1 : Int32)) u6 _ h g
set_option maxRecDepth 100000 in
set_option maxHeartbeats 4000000 in
theorem wX12_spread_B123 {X : UX} {D : UD} {bs tw : Nat} {u0 : UH} {v : UH} (C : uCx X D bs tw cX12_spread 9 RX12 none) (hin : X.2.2.2.2.2.2.2.1.name = "spread") {a0 : Nat} {x4 : Int32} {x5 : Int32} {x6 : Int64}  {G : UH → Prop} {k : Int32 → UH → Option UH} (hk : ∀ (x8 : Int32) (u' : UH) e, k x8 u' = some e → G e → VV X D bs u0 rmX12_spread 9 0 0 (MQ X.2.2.2.2.2.2.1 (uQv D bs u0 v) X.2.2.2.2.2.1 X.2.2.2.1 0 0 (uA bs u0)) u' 123 [(0, .ref (bs + a0)), (4, .int x4), (5, .int x5), (6, .long x6), (8, .int x8)] []) (hex : ∀  (u' : UH), G u' → VV X D bs u0 rmX12_spread 9 0 0 (MQ X.2.2.2.2.2.2.1 (uQv D bs u0 v) X.2.2.2.2.2.1 X.2.2.2.1 0 0 (uA bs u0)) u' 165 [(0, .ref (bs + a0)), (4, .int x4), (5, .int x5)] [])  : ∀ (x8 : Int32) (u : UH) e, fX12_spread_B123 a0 x5 x6  k x8 u = some e → G e → VV X D bs u0 rmX12_spread 9 0 0 (MQ X.2.2.2.2.2.2.1 (uQv D bs u0 v) X.2.2.2.2.2.1 X.2.2.2.1 0 0 (uA bs u0)) u 123 [(0, .ref (bs + a0)), (4, .int x4), (5, .int x5), (6, .long x6), (8, .int x8)] [] := by
  intro x8 u e h g
  unfold fX12_spread_B123 at h
  refine v_iload C 4 dX12_spread_123 rfl ?_
  refine v_aload_n C 0 dX12_spread_125 rfl rfl ?_
  obtain ⟨y19, h1, h⟩ := ob_some h
  obtain ⟨hkd, h1⟩ := kd_some h1
  refine v_goi (rn_V C gcX12_98 (RX12, TX12, 33) rfl rfl (by decide) hkd (mX12_headers h1) ⟨rfl, rfl⟩ rfl ⟨Nat.le_of_ble_eq_true rfl, Nat.le_of_ble_eq_true rfl⟩ (rest := [.int x8]) rfl (Nat.le_of_ble_eq_true rfl) ⟨Nat.le_of_ble_eq_true rfl, Nat.le_of_ble_eq_true rfl⟩ dX12_spread_126) ?_
  refine v_icmpge C 165 dX12_spread_129 (by decide) h (fun _ h => ?_) (fun _ h => ?_)
  · refine v_sub [(0, .ref (bs + a0)), (4, .int x4), (5, .int x5)] [0, 1, 2] rfl ?_
    exact hex u ((Option.some.inj h).symm ▸ g)
  · refine v_lload C 3 dX12_spread_132 rfl ?_
    refine v_lconst C (0 : Int64) dX12_spread_134 (by decide) ?_
    refine v_lcmpeq C 165 dX12_spread_135 dX12_spread_136 (by decide) h (fun _ h => ?_) (fun _ h => ?_)
    · refine v_sub [(0, .ref (bs + a0)), (4, .int x4), (5, .int x5)] [0, 1, 2] rfl ?_
      exact hex u ((Option.some.inj h).symm ▸ g)
    · refine v_lload C 3 dX12_spread_139 rfl ?_
      refine v_iload C 4 dX12_spread_141 rfl ?_
      refine v_lshr C dX12_spread_143 ?_
      refine v_lconst C (1 : Int64) dX12_spread_144 (by decide) ?_
      refine v_land C dX12_spread_145 ?_
      refine v_lconst C (1 : Int64) dX12_spread_146 (by decide) ?_
      refine v_lcmpne C 159 dX12_spread_147 dX12_spread_148 (by decide) h (fun _ h => ?_) (fun _ h => ?_)
      · refine v_iinc C 4 (x8 + (1 : Int32)) [(8, .int (x8 + (1 : Int32))), (0, .ref (bs + a0)), (4, .int x4), (5, .int x5), (6, .long x6)] dX12_spread_159 rfl rfl (by decide) rfl ?_
        refine v_goto C 123 dX12_spread_162 (by decide) ?_
        refine v_sub [(0, .ref (bs + a0)), (4, .int x4), (5, .int x5), (6, .long x6), (8, .int (x8 + (1 : Int32)))] [1, 2, 3, 4, 0] rfl ?_
        exact hk (x8 + (1 : Int32)) u _ h g
      · refine v_aload_n C 0 dX12_spread_151 rfl rfl ?_
        refine v_iload C 2 dX12_spread_152 rfl ?_
        refine v_iload C 4 dX12_spread_154 rfl ?_
        obtain ⟨u20, h1, h⟩ := ob_some h
        obtain ⟨hkd, h1⟩ := kd_some h1
        refine v_gov (rn_V C gcX12_161 (RX12, TX12, 33) rfl rfl (by decide) hkd (mX12_goOn h1) ⟨rfl, rfl⟩ rfl ⟨Nat.le_of_ble_eq_true rfl, Nat.le_of_ble_eq_true rfl⟩ (rest := []) rfl (Nat.le_of_ble_eq_true rfl) ⟨Nat.le_of_ble_eq_true rfl, Nat.le_of_ble_eq_true rfl⟩ dX12_spread_156) ?_
        refine v_iinc C 4 (x8 + (1 : Int32)) [(8, .int (x8 + (1 : Int32))), (0, .ref (bs + a0)), (4, .int x4), (5, .int x5), (6, .long x6)] dX12_spread_159 rfl rfl (by decide) rfl ?_
        refine v_goto C 123 dX12_spread_162 (by decide) ?_
        refine v_sub [(0, .ref (bs + a0)), (4, .int x4), (5, .int x5), (6, .long x6), (8, .int (x8 + (1 : Int32)))] [1, 2, 3, 4, 0] rfl ?_
        exact hk (x8 + (1 : Int32)) u20 _ h g
set_option maxRecDepth 100000 in
set_option maxHeartbeats 4000000 in
theorem wX12_spread_118 {X : UX} {D : UD} {bs tw : Nat} {u0 : UH} {v : UH} (C : uCx X D bs tw cX12_spread 9 RX12 none) (hin : X.2.2.2.2.2.2.2.1.name = "spread") {a0 : Nat}  {G : (Int32 × UH) → Prop} {k : Int32 → Int32 → UH → Option (Int32 × UH)} (hk : ∀ (x4 : Int32) (x5 : Int32) (u' : UH) e, k x4 x5 u' = some e → G e → VV X D bs u0 rmX12_spread 9 0 0 (MQ X.2.2.2.2.2.2.1 (uQv D bs u0 v) X.2.2.2.2.2.1 X.2.2.2.1 0 0 (uA bs u0)) u' 61 [(0, .ref (bs + a0)), (4, .int x4), (5, .int x5)] []) (hex : ∀ (x4 : Int32) (u' : UH), G (x4, u') → VV X D bs u0 rmX12_spread 9 0 0 (MQ X.2.2.2.2.2.2.1 (uQv D bs u0 v) X.2.2.2.2.2.1 X.2.2.2.1 0 0 (uA bs u0)) u' 171 [(0, .ref (bs + a0)), (4, .int x4)] [])  {x5 : Int32} {x6 : Int64} {s0 : Int32} {u : UH} {e : (Int32 × UH)} (h : fX12_spread_118 k a0 x5 x6 s0 u = some e) (g : G e) : VV X D bs u0 rmX12_spread 9 0 0 (MQ X.2.2.2.2.2.2.1 (uQv D bs u0 v) X.2.2.2.2.2.1 X.2.2.2.1 0 0 (uA bs u0)) u 118 [(0, .ref (bs + a0)), (5, .int x5), (6, .long x6)] [.int s0] := by
  unfold fX12_spread_118 at h
  refine v_istore C [(4, .int s0), (0, .ref (bs + a0)), (5, .int x5), (6, .long x6)] dX12_spread_118 (by decide) rfl ?_
  refine v_iconst C (0 : Int32) dX12_spread_120 (by decide) ?_
  refine v_istore C [(8, .int (0 : Int32)), (4, .int s0), (0, .ref (bs + a0)), (5, .int x5), (6, .long x6)] dX12_spread_121 (by decide) rfl ?_
  refine v_sub [(0, .ref (bs + a0)), (4, .int s0), (5, .int x5), (6, .long x6), (8, .int (0 : Int32))] [2, 1, 3, 4, 0] rfl ?_
  refine it2_O (V := fun x8 u' => VV X D bs u0 rmX12_spread 9 0 0 (MQ X.2.2.2.2.2.2.1 (uQv D bs u0 v) X.2.2.2.2.2.1 X.2.2.2.1 0 0 (uA bs u0)) u' 123 [(0, .ref (bs + a0)), (4, .int s0), (5, .int x5), (6, .long x6), (8, .int x8)] []) h (fun k_ hk_ => wX12_spread_B123 C hin hk_ ?_ )
  intro z22 h
  try dsimp only [Sum.elim_inl] at h
  refine v_iinc C 2 (x5 + (1 : Int32)) [(5, .int (x5 + (1 : Int32))), (0, .ref (bs + a0)), (4, .int s0)] dX12_spread_165 rfl rfl (by decide) rfl ?_
  refine v_goto C 61 dX12_spread_168 (by decide) ?_
  refine v_sub [(0, .ref (bs + a0)), (4, .int s0), (5, .int (x5 + (1 : Int32)))] [1, 2, 0] rfl ?_
  exact hk s0 (x5 + (1 : Int32)) z22 _ h g
set_option maxRecDepth 100000 in
set_option maxHeartbeats 4000000 in
theorem wX12_spread_113 {X : UX} {D : UD} {bs tw : Nat} {u0 : UH} {v : UH} (C : uCx X D bs tw cX12_spread 9 RX12 none) (hin : X.2.2.2.2.2.2.2.1.name = "spread") {a0 : Nat}  {G : (Int32 × UH) → Prop} {k : Int32 → Int32 → UH → Option (Int32 × UH)} (hk : ∀ (x4 : Int32) (x5 : Int32) (u' : UH) e, k x4 x5 u' = some e → G e → VV X D bs u0 rmX12_spread 9 0 0 (MQ X.2.2.2.2.2.2.1 (uQv D bs u0 v) X.2.2.2.2.2.1 X.2.2.2.1 0 0 (uA bs u0)) u' 61 [(0, .ref (bs + a0)), (4, .int x4), (5, .int x5)] []) (hex : ∀ (x4 : Int32) (u' : UH), G (x4, u') → VV X D bs u0 rmX12_spread 9 0 0 (MQ X.2.2.2.2.2.2.1 (uQv D bs u0 v) X.2.2.2.2.2.1 X.2.2.2.1 0 0 (uA bs u0)) u' 171 [(0, .ref (bs + a0)), (4, .int x4)] [])  {x5 : Int32} {x6 : Int64} {u : UH} {e : (Int32 × UH)} (h : fX12_spread_113 k a0 x5 x6 u = some e) (g : G e) : VV X D bs u0 rmX12_spread 9 0 0 (MQ X.2.2.2.2.2.2.1 (uQv D bs u0 v) X.2.2.2.2.2.1 X.2.2.2.1 0 0 (uA bs u0)) u 113 [(0, .ref (bs + a0)), (5, .int x5), (6, .long x6)] [] := by
  unfold fX12_spread_113 at h
  refine v_iconst C (1 : Int32) dX12_spread_113 (by decide) ?_
  refine v_goto C 118 dX12_spread_114 (by decide) ?_
  refine v_sub [(0, .ref (bs + a0)), (5, .int x5), (6, .long x6)] [0, 1, 2] rfl ?_
  exact wX12_spread_118 C hin hk hex  h g
set_option maxRecDepth 100000 in
set_option maxHeartbeats 4000000 in
theorem wX12_spread_B61 {X : UX} {D : UD} {bs tw : Nat} {u0 : UH} {v : UH} (C : uCx X D bs tw cX12_spread 9 RX12 none) (hin : X.2.2.2.2.2.2.2.1.name = "spread") {a0 : Nat}  {G : (Int32 × UH) → Prop} {k : Int32 → Int32 → UH → Option (Int32 × UH)} (hk : ∀ (x4 : Int32) (x5 : Int32) (u' : UH) e, k x4 x5 u' = some e → G e → VV X D bs u0 rmX12_spread 9 0 0 (MQ X.2.2.2.2.2.2.1 (uQv D bs u0 v) X.2.2.2.2.2.1 X.2.2.2.1 0 0 (uA bs u0)) u' 61 [(0, .ref (bs + a0)), (4, .int x4), (5, .int x5)] []) (hex : ∀ (x4 : Int32) (u' : UH), G (x4, u') → VV X D bs u0 rmX12_spread 9 0 0 (MQ X.2.2.2.2.2.2.1 (uQv D bs u0 v) X.2.2.2.2.2.1 X.2.2.2.1 0 0 (uA bs u0)) u' 171 [(0, .ref (bs + a0)), (4, .int x4)] [])  : ∀ (x4 : Int32) (x5 : Int32) (u : UH) e, fX12_spread_B61 a0  k x4 x5 u = some e → G e → VV X D bs u0 rmX12_spread 9 0 0 (MQ X.2.2.2.2.2.2.1 (uQv D bs u0 v) X.2.2.2.2.2.1 X.2.2.2.1 0 0 (uA bs u0)) u 61 [(0, .ref (bs + a0)), (4, .int x4), (5, .int x5)] [] := by
  intro x4 x5 u e h g
  unfold fX12_spread_B61 at h
  refine v_iload C 2 dX12_spread_61 rfl ?_
  refine v_bipush C (24 : Int32) dX12_spread_63 (by decide) ?_
  refine v_icmpge C 171 dX12_spread_65 (by decide) h (fun _ h => ?_) (fun _ h => ?_)
  · refine v_sub [(0, .ref (bs + a0)), (4, .int x4)] [0, 1] rfl ?_
    exact hex x4 u ((Option.some.inj h).symm ▸ g)
  · refine v_aload_n C 0 dX12_spread_68 rfl rfl ?_
    refine v_getR C fdX12_22 dX12_spread_69 h (fun b11 h => ?_)
    refine v_iload C 2 dX12_spread_72 rfl ?_
    refine v_ldJ C dX12_spread_74 h (fun y12 h => ?_)
    refine v_aload_n C 0 dX12_spread_75 rfl rfl ?_
    refine v_getR C fdX12_26 dX12_spread_76 h (fun b13 h => ?_)
    refine v_iload C 2 dX12_spread_79 rfl ?_
    refine v_ldJ C dX12_spread_81 h (fun y14 h => ?_)
    refine v_ldc2 C (-1 : Int64) tw1153 dX12_spread_82 ?_
    refine v_lxor C dX12_spread_85 ?_
    refine v_land C dX12_spread_86 ?_
    refine v_ltl h (fun y15 h => ?_)
    refine v_lstore C [(6, .long y15), (0, .ref (bs + a0)), (4, .int x4), (5, .int x5)] dX12_spread_87 (by decide) rfl ?_
    refine v_aload_n C 1 dX12_spread_89 rfl rfl ?_
    refine v_getR C fdX12_26 dX12_spread_90 h (fun b16 h => ?_)
    refine v_iload C 3 dX12_spread_93 rfl ?_
    refine v_dup2 C dX12_spread_95 rfl rfl ?_
    refine v_ldJ C dX12_spread_96 h (fun y17 h => ?_)
    refine v_lload C 0 dX12_spread_97 rfl ?_
    refine v_lor C dX12_spread_99 ?_
    refine v_stJ C dX12_spread_100 h (fun u18 h => ?_)
    refine v_iload C 2 dX12_spread_101 rfl ?_
    refine v_ifne C 113 dX12_spread_103 (by decide) h (fun _ h => ?_) (fun _ h => ?_)
    · refine v_sub [(0, .ref (bs + a0)), (5, .int x5), (6, .long y15)] [1, 3, 0] rfl ?_
      exact wX12_spread_113 C hin hk hex  h g
    · refine v_lload C 0 dX12_spread_106 rfl ?_
      refine v_lconst C (0 : Int64) dX12_spread_108 (by decide) ?_
      refine v_lcmpeq C 117 dX12_spread_109 dX12_spread_110 (by decide) h (fun _ h => ?_) (fun _ h => ?_)
      · refine v_iconst C (0 : Int32) dX12_spread_117 (by decide) ?_
        refine v_sub [(0, .ref (bs + a0)), (5, .int x5), (6, .long y15)] [1, 3, 0] rfl ?_
        exact wX12_spread_118 C hin hk hex  h g
      · refine v_sub [(0, .ref (bs + a0)), (5, .int x5), (6, .long y15)] [1, 3, 0] rfl ?_
        exact wX12_spread_113 C hin hk hex  h g
set_option maxRecDepth 100000 in
set_option maxHeartbeats 4000000 in
theorem wX12_spread_B50 {X : UX} {D : UD} {bs tw : Nat} {u0 : UH} {v : UH} (C : uCx X D bs tw cX12_spread 9 RX12 none) (hin : X.2.2.2.2.2.2.2.1.name = "spread") {a0 : Nat}  {G : UH → Prop} {k : Int32 → UH → Option UH} (hk : ∀ (x4 : Int32) (u' : UH) e, k x4 u' = some e → G e → VV X D bs u0 rmX12_spread 9 0 0 (MQ X.2.2.2.2.2.2.1 (uQv D bs u0 v) X.2.2.2.2.2.1 X.2.2.2.1 0 0 (uA bs u0)) u' 50 [(0, .ref (bs + a0)), (4, .int x4)] []) (hex : ∀  (u' : UH), G u' → VV X D bs u0 rmX12_spread 9 0 0 (MQ X.2.2.2.2.2.2.1 (uQv D bs u0 v) X.2.2.2.2.2.1 X.2.2.2.1 0 0 (uA bs u0)) u' 174 [] [])  : ∀ (x4 : Int32) (u : UH) e, fX12_spread_B50 a0  k x4 u = some e → G e → VV X D bs u0 rmX12_spread 9 0 0 (MQ X.2.2.2.2.2.2.1 (uQv D bs u0 v) X.2.2.2.2.2.1 X.2.2.2.1 0 0 (uA bs u0)) u 50 [(0, .ref (bs + a0)), (4, .int x4)] [] := by
  intro x4 u e h g
  unfold fX12_spread_B50 at h
  refine v_iload C 1 dX12_spread_50 rfl ?_
  refine v_ifeq C 174 dX12_spread_52 (by decide) h (fun _ h => ?_) (fun _ h => ?_)
  · refine v_sub [] [] rfl ?_
    exact hex u ((Option.some.inj h).symm ▸ g)
  · refine v_iconst C (0 : Int32) dX12_spread_55 (by decide) ?_
    refine v_istore C [(4, .int (0 : Int32)), (0, .ref (bs + a0))] dX12_spread_56 (by decide) rfl ?_
    refine v_iconst C (0 : Int32) dX12_spread_58 (by decide) ?_
    refine v_istore C [(5, .int (0 : Int32)), (4, .int (0 : Int32)), (0, .ref (bs + a0))] dX12_spread_59 (by decide) rfl ?_
    refine v_sub [(0, .ref (bs + a0)), (4, .int (0 : Int32)), (5, .int (0 : Int32))] [2, 1, 0] rfl ?_
    refine it3_O (V := fun x4 x5 u' => VV X D bs u0 rmX12_spread 9 0 0 (MQ X.2.2.2.2.2.2.1 (uQv D bs u0 v) X.2.2.2.2.2.1 X.2.2.2.1 0 0 (uA bs u0)) u' 61 [(0, .ref (bs + a0)), (4, .int x4), (5, .int x5)] []) h (fun k_ hk_ => wX12_spread_B61 C hin hk_ ?_ )
    intro z24 z25 h
    try dsimp only [Sum.elim_inl] at h
    refine v_goto C 50 dX12_spread_171 (by decide) ?_
    refine v_sub [(0, .ref (bs + a0)), (4, .int z24)] [0, 1] rfl ?_
    exact hk z24 z25 _ h g
set_option maxRecDepth 100000 in
set_option maxHeartbeats 4000000 in
theorem mX12_spread {l : Launch} {D : UD} {bs : Nat} {a0 : Nat} {x1 : Int32} {x2 : Int64} {u0 : UH} {v : UH} (h : fX12_spread a0 x1 x2 u0 = some v) : Met l yX12_spread (wz yX12_spread cX12_spread 9 none) rmX12_spread (va_Pc [.ref (bs + a0), .int x1, .long x2] (uIn D bs u0)) (uQv D bs u0 v) 0 0 (uA bs u0) := by
  refine uMet (by decide) (Nat.le_of_ble_eq_true rfl) ?_
  intro X tw hX C hin
  have C : uCx X D bs tw cX12_spread 9 RX12 none := C
  have hin : X.2.2.2.2.2.2.2.1.name = "spread" := hin
  refine v_L [(0, .ref (bs + a0)), (1, .int x1), (2, .long x2)] rfl ?_
  unfold fX12_spread at h
  refine v_iconst C (0 : Int32) dX12_spread_0 (by decide) ?_
  refine v_istore C [(4, .int (0 : Int32)), (0, .ref (bs + a0)), (1, .int x1), (2, .long x2)] dX12_spread_1 (by decide) rfl ?_
  refine v_sub [(0, .ref (bs + a0)), (1, .int x1), (2, .long x2), (4, .int (0 : Int32))] [1, 2, 3, 0] rfl ?_
  refine it2_O (V := fun x4 u' => VV X D bs u0 rmX12_spread 9 0 0 (MQ X.2.2.2.2.2.2.1 (uQv D bs u0 v) X.2.2.2.2.2.1 X.2.2.2.1 0 0 (uA bs u0)) u' 3 [(0, .ref (bs + a0)), (1, .int x1), (2, .long x2), (4, .int x4)] []) h (fun k_ hk_ => wX12_spread_B3 C hin hk_ ?_ )
  intro z8 h
  try dsimp only [Sum.elim_inl] at h
  refine v_aload_n C 0 dX12_spread_40 rfl rfl ?_
  refine v_getR C fdX12_22 dX12_spread_41 h (fun b9 h => ?_)
  refine v_iload_n C 1 dX12_spread_44 rfl rfl ?_
  refine v_lload_n C 2 dX12_spread_45 rfl rfl ?_
  refine v_stJ C dX12_spread_46 h (fun u10 h => ?_)
  refine v_iconst C (1 : Int32) dX12_spread_47 (by decide) ?_
  refine v_istore C [(4, .int (1 : Int32)), (0, .ref (bs + a0)), (1, .int x1), (2, .long x2)] dX12_spread_48 (by decide) rfl ?_
  refine v_sub [(0, .ref (bs + a0)), (4, .int (1 : Int32))] [1, 0] rfl ?_
  refine it2_O (V := fun x4 u' => VV X D bs u0 rmX12_spread 9 0 0 (MQ X.2.2.2.2.2.2.1 (uQv D bs u0 v) X.2.2.2.2.2.1 X.2.2.2.1 0 0 (uA bs u0)) u' 50 [(0, .ref (bs + a0)), (4, .int x4)] []) h (fun k_ hk_ => wX12_spread_B50 C hin hk_ ?_ )
  intro z12 h
  try dsimp only [Sum.elim_inl] at h
  exact v_vret C dX12_spread_174 (Option.some.inj h)
set_option maxRecDepth 100000 in
set_option maxHeartbeats 4000000 in
theorem mX12_spreadAll {l : Launch} {D : UD} {bs : Nat} {a0 : Nat} {u0 : UH} {v : UH} (h : fX12_spreadAll a0 u0 = some v) : Met l yX12_spreadAll (wz yX12_spreadAll cX12_spreadAll 1 none) rmX12_spreadAll (va_Pc [.ref (bs + a0)] (uIn D bs u0)) (uQv D bs u0 v) 0 0 (uA bs u0) := by
  refine uMet (by decide) (Nat.le_of_ble_eq_true rfl) ?_
  intro X tw hX C hin
  have C : uCx X D bs tw cX12_spreadAll 1 RX12 none := C
  have hin : X.2.2.2.2.2.2.2.1.name = "spreadAll" := hin
  refine v_L [(0, .ref (bs + a0))] rfl ?_
  unfold fX12_spreadAll at h
  refine v_aload_n C 0 dX12_spreadAll_0 rfl rfl ?_
  refine v_aload_n C 0 dX12_spreadAll_1 rfl rfl ?_
  refine v_getI C fdX12_79 dX12_spreadAll_2 h (fun y1 h => ?_)
  refine v_aload_n C 0 dX12_spreadAll_5 rfl rfl ?_
  obtain ⟨y2, h1, h⟩ := ob_some h
  obtain ⟨hkd, h1⟩ := kd_some h1
  refine v_gol (rn_V C gcX12_164 (RX12, TX12, 33) rfl rfl (by decide) hkd (mX12_injected h1) ⟨rfl, rfl⟩ rfl ⟨Nat.le_of_ble_eq_true rfl, Nat.le_of_ble_eq_true rfl⟩ (rest := [.int y1, .ref (bs + a0)]) rfl (Nat.le_of_ble_eq_true rfl) ⟨Nat.le_of_ble_eq_true rfl, Nat.le_of_ble_eq_true rfl⟩ dX12_spreadAll_6) ?_
  obtain ⟨u3, h1, h⟩ := ob_some h
  obtain ⟨hkd, h1⟩ := kd_some h1
  refine v_gov (rn_V C gcX12_168 (RX12, TX12, 33) rfl rfl (by decide) hkd (mX12_spread h1) ⟨rfl, rfl⟩ rfl ⟨Nat.le_of_ble_eq_true rfl, Nat.le_of_ble_eq_true rfl⟩ (rest := []) rfl (Nat.le_of_ble_eq_true rfl) ⟨Nat.le_of_ble_eq_true rfl, Nat.le_of_ble_eq_true rfl⟩ dX12_spreadAll_9) ?_
  exact v_vret C dX12_spreadAll_12 (Option.some.inj h)
set_option maxRecDepth 100000 in
set_option maxHeartbeats 4000000 in
theorem wX12_size_B4 {X : UX} {D : UD} {bs tw : Nat} {u0 : UH} {r : Int32} (C : uCx X D bs tw cX12_size 5 RX12 (some .int)) (hin : X.2.2.2.2.2.2.2.1.name = "size")   {G : Int32 → Prop} {k : Int32 → Int64 → Option Int32} (hk : ∀ (x2 : Int32) (x3 : Int64)  e, k x2 x3  = some e → G e → VV X D bs u0 rmX12_size 5 0 0 (MQ X.2.2.2.2.2.2.1 (uQi D bs u0 u0 r) X.2.2.2.2.2.1 X.2.2.2.1 0 0 (uA bs u0)) u0 4 [(2, .int x2), (3, .long x3)] []) (hex : ∀ (x2 : Int32) , G x2 → VV X D bs u0 rmX12_size 5 0 0 (MQ X.2.2.2.2.2.2.1 (uQi D bs u0 u0 r) X.2.2.2.2.2.1 X.2.2.2.1 0 0 (uA bs u0)) u0 22 [(2, .int x2)] [])  : ∀ (x2 : Int32) (x3 : Int64)  e, fX12_size_B4  u0 k x2 x3  = some e → G e → VV X D bs u0 rmX12_size 5 0 0 (MQ X.2.2.2.2.2.2.1 (uQi D bs u0 u0 r) X.2.2.2.2.2.1 X.2.2.2.1 0 0 (uA bs u0)) u0 4 [(2, .int x2), (3, .long x3)] [] := by
  intro x2 x3  e h g
  unfold fX12_size_B4 at h
  refine v_lload_n C 1 dX12_size_4 rfl rfl ?_
  refine v_lconst C (0 : Int64) dX12_size_5 (by decide) ?_
  refine v_lcmpeq C 22 dX12_size_6 dX12_size_7 (by decide) h (fun _ h => ?_) (fun _ h => ?_)
  · refine v_sub [(2, .int x2)] [0] rfl ?_
    exact hex x2 ((Option.some.inj h).symm ▸ g)
  · refine v_iinc C 0 (x2 + (1 : Int32)) [(2, .int (x2 + (1 : Int32))), (3, .long x3)] dX12_size_10 rfl rfl (by decide) rfl ?_
    refine v_lload_n C 1 dX12_size_13 rfl rfl ?_
    refine v_lload_n C 1 dX12_size_14 rfl rfl ?_
    refine v_lconst C (1 : Int64) dX12_size_15 (by decide) ?_
    refine v_lsub C dX12_size_16 ?_
    refine v_land C dX12_size_17 ?_
    refine v_ltl h (fun y1 h => ?_)
    refine v_lstore_n C [(3, .long y1), (2, .int (x2 + (1 : Int32)))] dX12_size_18 rfl (by decide) rfl ?_
    refine v_goto C 4 dX12_size_19 (by decide) ?_
    refine v_sub [(2, .int (x2 + (1 : Int32))), (3, .long y1)] [1, 0] rfl ?_
    exact hk (x2 + (1 : Int32)) y1 _ h g
set_option maxRecDepth 100000 in
set_option maxHeartbeats 4000000 in
theorem mX12_size {l : Launch} {D : UD} {bs : Nat} {x0 : Int64} {u0 : UH} {r : Int32} (h : fX12_size x0 u0 = some r) : Met l yX12_size (wz yX12_size cX12_size 5 (some .int)) rmX12_size (va_Pc [.long x0] (uIn D bs u0)) (uQi D bs u0 u0 r) 0 0 (uA bs u0) := by
  refine uMet (by decide) (Nat.le_of_ble_eq_true rfl) ?_
  intro X tw hX C hin
  have C : uCx X D bs tw cX12_size 5 RX12 (some .int) := C
  have hin : X.2.2.2.2.2.2.2.1.name = "size" := hin
  refine v_L [(0, .long x0)] rfl ?_
  unfold fX12_size at h
  refine v_iconst C (0 : Int32) dX12_size_0 (by decide) ?_
  refine v_istore_n C [(2, .int (0 : Int32)), (0, .long x0)] dX12_size_1 rfl (by decide) rfl ?_
  refine v_lload_n C 1 dX12_size_2 rfl rfl ?_
  refine v_lstore_n C [(3, .long x0), (2, .int (0 : Int32)), (0, .long x0)] dX12_size_3 rfl (by decide) rfl ?_
  refine v_sub [(2, .int (0 : Int32)), (3, .long x0)] [1, 0] rfl ?_
  refine it2_O (V := fun x2 x3 => VV X D bs u0 rmX12_size 5 0 0 (MQ X.2.2.2.2.2.2.1 (uQi D bs u0 u0 r) X.2.2.2.2.2.1 X.2.2.2.1 0 0 (uA bs u0)) u0 4 [(2, .int x2), (3, .long x3)] []) h (fun k_ hk_ => wX12_size_B4 C hin hk_ ?_ )
  intro z3 h
  try dsimp only [Sum.elim_inl] at h
  refine v_iload_n C 0 dX12_size_22 rfl rfl ?_
  exact v_iret C dX12_size_23 rfl (Option.some.inj h)
set_option maxRecDepth 100000 in
set_option maxHeartbeats 4000000 in
theorem mX12_inject {l : Launch} {D : UD} {bs : Nat} {a0 : Nat} {x1 : Int32} {x2 : Int32} {x3 : Int32} {x4 : Int32} {u0 : UH} {r : Int32} {v : UH} (h : fX12_inject a0 x1 x2 x3 x4 u0 = some (r, v)) : Met l yX12_inject (wz yX12_inject cX12_inject 5 (some .int)) rmX12_inject (va_Pc [.ref (bs + a0), .int x1, .int x2, .int x3, .int x4] (uIn D bs u0)) (uQi D bs u0 v r) 0 0 (uA bs u0) := by
  refine uMet (by decide) (Nat.le_of_ble_eq_true rfl) ?_
  intro X tw hX C hin
  have C : uCx X D bs tw cX12_inject 5 RX12 (some .int) := C
  have hin : X.2.2.2.2.2.2.2.1.name = "inject" := hin
  refine v_L [(0, .ref (bs + a0)), (1, .int x1), (2, .int x2), (3, .int x3), (4, .int x4)] rfl ?_
  unfold fX12_inject at h
  refine v_iload_n C 1 dX12_inject_0 rfl rfl ?_
  refine v_iload_n C 2 dX12_inject_1 rfl rfl ?_
  obtain ⟨y1, h1, h⟩ := ob_some h
  refine v_goi (rn_S C gcX12_106 (mX12_noPlace h1) ⟨rfl, rfl⟩ rfl ⟨Nat.le_of_ble_eq_true rfl, Nat.le_of_ble_eq_true rfl⟩ (rest := []) rfl (Nat.le_of_ble_eq_true rfl) ⟨Nat.le_of_ble_eq_true rfl, Nat.le_of_ble_eq_true rfl⟩ dX12_inject_2) ?_
  refine v_ifeq C 10 dX12_inject_5 (by decide) h (fun _ h => ?_) (fun _ h => ?_)
  · refine v_aload_n C 0 dX12_inject_10 rfl rfl ?_
    refine v_iload_n C 3 dX12_inject_11 rfl rfl ?_
    obtain ⟨y2, h1, h⟩ := ob_some h
    obtain ⟨hkd, h1⟩ := kd_some h1
    refine v_goi (rn_V C gcX12_122 (RX12, TX12, 33) rfl rfl (by decide) hkd (mX12_noHeader h1) ⟨rfl, rfl⟩ rfl ⟨Nat.le_of_ble_eq_true rfl, Nat.le_of_ble_eq_true rfl⟩ (rest := []) rfl (Nat.le_of_ble_eq_true rfl) ⟨Nat.le_of_ble_eq_true rfl, Nat.le_of_ble_eq_true rfl⟩ dX12_inject_12) ?_
    refine v_ifne C 27 dX12_inject_15 (by decide) h (fun _ h => ?_) (fun _ h => ?_)
    · refine v_bipush C (-3 : Int32) dX12_inject_27 (by decide) ?_
      exact v_iret C dX12_inject_29 (Prod.mk.inj (Option.some.inj h)).2 (Prod.mk.inj (Option.some.inj h)).1
    · refine v_aload_n C 0 dX12_inject_18 rfl rfl ?_
      refine v_iload C 4 dX12_inject_19 rfl ?_
      obtain ⟨y3, h1, h⟩ := ob_some h
      obtain ⟨hkd, h1⟩ := kd_some h1
      refine v_goi (rn_V C gcX12_122 (RX12, TX12, 33) rfl rfl (by decide) hkd (mX12_noHeader h1) ⟨rfl, rfl⟩ rfl ⟨Nat.le_of_ble_eq_true rfl, Nat.le_of_ble_eq_true rfl⟩ (rest := []) rfl (Nat.le_of_ble_eq_true rfl) ⟨Nat.le_of_ble_eq_true rfl, Nat.le_of_ble_eq_true rfl⟩ dX12_inject_21) ?_
      refine v_ifeq C 30 dX12_inject_24 (by decide) h (fun _ h => ?_) (fun _ h => ?_)
      · refine v_aload_n C 0 dX12_inject_30 rfl rfl ?_
        refine v_iconst C (4 : Int32) dX12_inject_31 (by decide) ?_
        refine v_iload_n C 1 dX12_inject_32 rfl rfl ?_
        refine v_imul C dX12_inject_33 ?_
        refine v_iload_n C 2 dX12_inject_34 rfl rfl ?_
        refine v_iadd C dX12_inject_35 ?_
        refine v_putI C fdX12_79 (fun h => by cases h) dX12_inject_36 h (fun u4 h => ?_)
        refine v_aload_n C 0 dX12_inject_39 rfl rfl ?_
        refine v_iload_n C 3 dX12_inject_40 rfl rfl ?_
        refine v_putI C fdX12_82 (fun h => by cases h) dX12_inject_41 h (fun u5 h => ?_)
        refine v_aload_n C 0 dX12_inject_44 rfl rfl ?_
        refine v_iload C 4 dX12_inject_45 rfl ?_
        refine v_iload_n C 3 dX12_inject_47 rfl rfl ?_
        refine v_iand C dX12_inject_48 ?_
        refine v_putI C fdX12_85 (fun h => by cases h) dX12_inject_49 h (fun u6 h => ?_)
        refine v_aload_n C 0 dX12_inject_52 rfl rfl ?_
        obtain ⟨y7, h1, h⟩ := ob_some h
        obtain ⟨hkd, h1⟩ := kd_some h1
        refine v_gol (rn_V C gcX12_164 (RX12, TX12, 33) rfl rfl (by decide) hkd (mX12_injected h1) ⟨rfl, rfl⟩ rfl ⟨Nat.le_of_ble_eq_true rfl, Nat.le_of_ble_eq_true rfl⟩ (rest := []) rfl (Nat.le_of_ble_eq_true rfl) ⟨Nat.le_of_ble_eq_true rfl, Nat.le_of_ble_eq_true rfl⟩ dX12_inject_53) ?_
        obtain ⟨y8, h1, h⟩ := ob_some h
        refine v_goi (rn_S C gcX12_172 (mX12_size h1) ⟨rfl, rfl⟩ rfl ⟨Nat.le_of_ble_eq_true rfl, Nat.le_of_ble_eq_true rfl⟩ (rest := []) rfl (Nat.le_of_ble_eq_true rfl) ⟨Nat.le_of_ble_eq_true rfl, Nat.le_of_ble_eq_true rfl⟩ dX12_inject_56) ?_
        exact v_iret C dX12_inject_59 (Prod.mk.inj (Option.some.inj h)).2 (Prod.mk.inj (Option.some.inj h)).1
      · refine v_bipush C (-3 : Int32) dX12_inject_27 (by decide) ?_
        exact v_iret C dX12_inject_29 (Prod.mk.inj (Option.some.inj h)).2 (Prod.mk.inj (Option.some.inj h)).1
  · refine v_iconst C (-1 : Int32) dX12_inject_8 (by decide) ?_
    exact v_iret C dX12_inject_9 (Prod.mk.inj (Option.some.inj h)).2 (Prod.mk.inj (Option.some.inj h)).1
set_option maxRecDepth 100000 in
set_option maxHeartbeats 4000000 in
theorem mX12_arriving {l : Launch} {D : UD} {bs : Nat} {a0 : Nat} {x1 : Int32} {x2 : Int32} {u0 : UH} {r : Int64} {v : UH} (h : fX12_arriving a0 x1 x2 u0 = some (r, v)) : Met l yX12_arriving (wz yX12_arriving cX12_arriving 3 (some .long)) rmX12_arriving (va_Pc [.ref (bs + a0), .int x1, .int x2] (uIn D bs u0)) (uQl D bs u0 v r) 0 0 (uA bs u0) := by
  refine uMet (by decide) (Nat.le_of_ble_eq_true rfl) ?_
  intro X tw hX C hin
  have C : uCx X D bs tw cX12_arriving 3 RX12 (some .long) := C
  have hin : X.2.2.2.2.2.2.2.1.name = "arriving" := hin
  refine v_L [(0, .ref (bs + a0)), (1, .int x1), (2, .int x2)] rfl ?_
  unfold fX12_arriving at h
  refine v_iload_n C 1 dX12_arriving_0 rfl rfl ?_
  refine v_iload_n C 2 dX12_arriving_1 rfl rfl ?_
  obtain ⟨y1, h1, h⟩ := ob_some h
  refine v_goi (rn_S C gcX12_106 (mX12_noPlace h1) ⟨rfl, rfl⟩ rfl ⟨Nat.le_of_ble_eq_true rfl, Nat.le_of_ble_eq_true rfl⟩ (rest := []) rfl (Nat.le_of_ble_eq_true rfl) ⟨Nat.le_of_ble_eq_true rfl, Nat.le_of_ble_eq_true rfl⟩ dX12_arriving_2) ?_
  refine v_ifeq C 12 dX12_arriving_5 (by decide) h (fun _ h => ?_) (fun _ h => ?_)
  · refine v_aload_n C 0 dX12_arriving_12 rfl rfl ?_
    obtain ⟨u2, h1, h⟩ := ob_some h
    obtain ⟨hkd, h1⟩ := kd_some h1
    refine v_gov (rn_V C gcX12_179 (RX12, TX12, 33) rfl rfl (by decide) hkd (mX12_spreadAll h1) ⟨rfl, rfl⟩ rfl ⟨Nat.le_of_ble_eq_true rfl, Nat.le_of_ble_eq_true rfl⟩ (rest := []) rfl (Nat.le_of_ble_eq_true rfl) ⟨Nat.le_of_ble_eq_true rfl, Nat.le_of_ble_eq_true rfl⟩ dX12_arriving_13) ?_
    refine v_aload_n C 0 dX12_arriving_16 rfl rfl ?_
    refine v_getR C fdX12_22 dX12_arriving_17 h (fun b3 h => ?_)
    refine v_iconst C (4 : Int32) dX12_arriving_20 (by decide) ?_
    refine v_iload_n C 1 dX12_arriving_21 rfl rfl ?_
    refine v_imul C dX12_arriving_22 ?_
    refine v_iload_n C 2 dX12_arriving_23 rfl rfl ?_
    refine v_iadd C dX12_arriving_24 ?_
    refine v_ldJ C dX12_arriving_25 h (fun y4 h => ?_)
    exact v_lret C dX12_arriving_26 (Prod.mk.inj (Option.some.inj h)).2 (Prod.mk.inj (Option.some.inj h)).1
  · obtain ⟨y5, h1, h⟩ := ob_some h
    refine v_gol (rn_S C gcX12_176 (mX12_lost h1) ⟨rfl, rfl⟩ rfl ⟨Nat.le_of_ble_eq_true rfl, Nat.le_of_ble_eq_true rfl⟩ (rest := []) rfl (Nat.le_of_ble_eq_true rfl) ⟨Nat.le_of_ble_eq_true rfl, Nat.le_of_ble_eq_true rfl⟩ dX12_arriving_8) ?_
    exact v_lret C dX12_arriving_11 (Prod.mk.inj (Option.some.inj h)).2 (Prod.mk.inj (Option.some.inj h)).1
set_option maxRecDepth 100000 in
set_option maxHeartbeats 4000000 in
theorem mX12_delivered {l : Launch} {D : UD} {bs : Nat} {a0 : Nat} {x1 : Int32} {x2 : Int32} {u0 : UH} {r : Int64} {v : UH} (h : fX12_delivered a0 x1 x2 u0 = some (r, v)) : Met l yX12_delivered (wz yX12_delivered cX12_delivered 3 (some .long)) rmX12_delivered (va_Pc [.ref (bs + a0), .int x1, .int x2] (uIn D bs u0)) (uQl D bs u0 v r) 0 0 (uA bs u0) := by
  refine uMet (by decide) (Nat.le_of_ble_eq_true rfl) ?_
  intro X tw hX C hin
  have C : uCx X D bs tw cX12_delivered 3 RX12 (some .long) := C
  have hin : X.2.2.2.2.2.2.2.1.name = "delivered" := hin
  refine v_L [(0, .ref (bs + a0)), (1, .int x1), (2, .int x2)] rfl ?_
  unfold fX12_delivered at h
  refine v_iload_n C 1 dX12_delivered_0 rfl rfl ?_
  refine v_iload_n C 2 dX12_delivered_1 rfl rfl ?_
  obtain ⟨y1, h1, h⟩ := ob_some h
  refine v_goi (rn_S C gcX12_106 (mX12_noPlace h1) ⟨rfl, rfl⟩ rfl ⟨Nat.le_of_ble_eq_true rfl, Nat.le_of_ble_eq_true rfl⟩ (rest := []) rfl (Nat.le_of_ble_eq_true rfl) ⟨Nat.le_of_ble_eq_true rfl, Nat.le_of_ble_eq_true rfl⟩ dX12_delivered_2) ?_
  refine v_ifeq C 12 dX12_delivered_5 (by decide) h (fun _ h => ?_) (fun _ h => ?_)
  · refine v_aload_n C 0 dX12_delivered_12 rfl rfl ?_
    obtain ⟨u2, h1, h⟩ := ob_some h
    obtain ⟨hkd, h1⟩ := kd_some h1
    refine v_gov (rn_V C gcX12_179 (RX12, TX12, 33) rfl rfl (by decide) hkd (mX12_spreadAll h1) ⟨rfl, rfl⟩ rfl ⟨Nat.le_of_ble_eq_true rfl, Nat.le_of_ble_eq_true rfl⟩ (rest := []) rfl (Nat.le_of_ble_eq_true rfl) ⟨Nat.le_of_ble_eq_true rfl, Nat.le_of_ble_eq_true rfl⟩ dX12_delivered_13) ?_
    refine v_aload_n C 0 dX12_delivered_16 rfl rfl ?_
    refine v_getR C fdX12_29 dX12_delivered_17 h (fun b3 h => ?_)
    refine v_iconst C (4 : Int32) dX12_delivered_20 (by decide) ?_
    refine v_iload_n C 1 dX12_delivered_21 rfl rfl ?_
    refine v_imul C dX12_delivered_22 ?_
    refine v_iload_n C 2 dX12_delivered_23 rfl rfl ?_
    refine v_iadd C dX12_delivered_24 ?_
    refine v_ldJ C dX12_delivered_25 h (fun y4 h => ?_)
    exact v_lret C dX12_delivered_26 (Prod.mk.inj (Option.some.inj h)).2 (Prod.mk.inj (Option.some.inj h)).1
  · obtain ⟨y5, h1, h⟩ := ob_some h
    refine v_gol (rn_S C gcX12_176 (mX12_lost h1) ⟨rfl, rfl⟩ rfl ⟨Nat.le_of_ble_eq_true rfl, Nat.le_of_ble_eq_true rfl⟩ (rest := []) rfl (Nat.le_of_ble_eq_true rfl) ⟨Nat.le_of_ble_eq_true rfl, Nat.le_of_ble_eq_true rfl⟩ dX12_delivered_8) ?_
    exact v_lret C dX12_delivered_11 (Prod.mk.inj (Option.some.inj h)).2 (Prod.mk.inj (Option.some.inj h)).1
set_option maxRecDepth 100000 in
set_option maxHeartbeats 4000000 in
theorem wX12_handledBy_B14 {X : UX} {D : UD} {bs tw : Nat} {u0 : UH} {r : Int32} (C : uCx X D bs tw cX12_handledBy 6 RX12 (some .int)) (hin : X.2.2.2.2.2.2.2.1.name = "handledBy") {a0 : Nat} {x1 : Int32} {x2 : Int32} {x4 : Int32}  {G : Int32 → Prop} {k : Int32 → Int32 → Option Int32} (hk : ∀ (x3 : Int32) (x5 : Int32)  e, k x3 x5  = some e → G e → VV X D bs u0 rmX12_handledBy 6 0 0 (MQ X.2.2.2.2.2.2.1 (uQi D bs u0 u0 r) X.2.2.2.2.2.1 X.2.2.2.1 0 0 (uA bs u0)) u0 14 [(0, .ref (bs + a0)), (1, .int x1), (2, .int x2), (3, .int x3), (4, .int x4), (5, .int x5)] []) (hex : ∀ (x3 : Int32) , G x3 → VV X D bs u0 rmX12_handledBy 6 0 0 (MQ X.2.2.2.2.2.2.1 (uQi D bs u0 u0 r) X.2.2.2.2.2.1 X.2.2.2.1 0 0 (uA bs u0)) u0 71 [(0, .ref (bs + a0)), (1, .int x1), (2, .int x2), (3, .int x3), (4, .int x4)] [])  : ∀ (x3 : Int32) (x5 : Int32)  e, fX12_handledBy_B14 a0 x1 x2 x4 u0 k x3 x5  = some e → G e → VV X D bs u0 rmX12_handledBy 6 0 0 (MQ X.2.2.2.2.2.2.1 (uQi D bs u0 u0 r) X.2.2.2.2.2.1 X.2.2.2.1 0 0 (uA bs u0)) u0 14 [(0, .ref (bs + a0)), (1, .int x1), (2, .int x2), (3, .int x3), (4, .int x4), (5, .int x5)] [] := by
  intro x3 x5  e h g
  unfold fX12_handledBy_B14 at h
  refine v_iload C 5 dX12_handledBy_14 rfl ?_
  refine v_aload_n C 0 dX12_handledBy_16 rfl rfl ?_
  obtain ⟨y1, h1, h⟩ := ob_some h
  obtain ⟨hkd, h1⟩ := kd_some h1
  refine v_goi (rn_V C gcX12_98 (RX12, TX12, 33) rfl rfl (by decide) hkd (mX12_headers h1) ⟨rfl, rfl⟩ rfl ⟨Nat.le_of_ble_eq_true rfl, Nat.le_of_ble_eq_true rfl⟩ (rest := [.int x5]) rfl (Nat.le_of_ble_eq_true rfl) ⟨Nat.le_of_ble_eq_true rfl, Nat.le_of_ble_eq_true rfl⟩ dX12_handledBy_17) ?_
  refine v_icmpge C 71 dX12_handledBy_20 (by decide) h (fun _ h => ?_) (fun _ h => ?_)
  · refine v_sub [(0, .ref (bs + a0)), (1, .int x1), (2, .int x2), (3, .int x3), (4, .int x4)] [0, 1, 2, 3, 4] rfl ?_
    exact hex x3 ((Option.some.inj h).symm ▸ g)
  · refine v_iload_n C 3 dX12_handledBy_23 rfl rfl ?_
    refine v_aload_n C 0 dX12_handledBy_24 rfl rfl ?_
    refine v_getR C fdX12_22 dX12_handledBy_25 h (fun b2 h => ?_)
    refine v_iconst C (4 : Int32) dX12_handledBy_28 (by decide) ?_
    refine v_iload_n C 1 dX12_handledBy_29 rfl rfl ?_
    refine v_imul C dX12_handledBy_30 ?_
    refine v_iload C 4 dX12_handledBy_31 rfl ?_
    refine v_iadd C dX12_handledBy_33 ?_
    refine v_ldJ C dX12_handledBy_34 h (fun y3 h => ?_)
    refine v_iload C 5 dX12_handledBy_35 rfl ?_
    refine v_lshr C dX12_handledBy_37 ?_
    refine v_lconst C (1 : Int64) dX12_handledBy_38 (by decide) ?_
    refine v_land C dX12_handledBy_39 ?_
    refine v_lconst C (1 : Int64) dX12_handledBy_40 (by decide) ?_
    refine v_lcmpne C 62 dX12_handledBy_41 dX12_handledBy_42 (by decide) h (fun _ h => ?_) (fun _ h => ?_)
    · refine v_iconst C (0 : Int32) dX12_handledBy_62 (by decide) ?_
      refine v_iadd C dX12_handledBy_63 ?_
      refine v_lti h (fun y4 h => ?_)
      refine v_istore_n C [(3, .int y4), (0, .ref (bs + a0)), (1, .int x1), (2, .int x2), (4, .int x4), (5, .int x5)] dX12_handledBy_64 rfl (by decide) rfl ?_
      refine v_iinc C 5 (x5 + (1 : Int32)) [(5, .int (x5 + (1 : Int32))), (3, .int y4), (0, .ref (bs + a0)), (1, .int x1), (2, .int x2), (4, .int x4)] dX12_handledBy_65 rfl rfl (by decide) rfl ?_
      refine v_goto C 14 dX12_handledBy_68 (by decide) ?_
      refine v_sub [(0, .ref (bs + a0)), (1, .int x1), (2, .int x2), (3, .int y4), (4, .int x4), (5, .int (x5 + (1 : Int32)))] [2, 3, 4, 1, 5, 0] rfl ?_
      exact hk y4 (x5 + (1 : Int32)) _ h g
    · refine v_aload_n C 0 dX12_handledBy_45 rfl rfl ?_
      refine v_iload_n C 1 dX12_handledBy_46 rfl rfl ?_
      refine v_iload C 4 dX12_handledBy_47 rfl ?_
      refine v_iload C 5 dX12_handledBy_49 rfl ?_
      obtain ⟨y5, h1, h⟩ := ob_some h
      obtain ⟨hkd, h1⟩ := kd_some h1
      refine v_goi (rn_V C gcX12_150 (RX12, TX12, 33) rfl rfl (by decide) hkd (mX12_handler h1) ⟨rfl, rfl⟩ rfl ⟨Nat.le_of_ble_eq_true rfl, Nat.le_of_ble_eq_true rfl⟩ (rest := [.int x3]) rfl (Nat.le_of_ble_eq_true rfl) ⟨Nat.le_of_ble_eq_true rfl, Nat.le_of_ble_eq_true rfl⟩ dX12_handledBy_51) ?_
      refine v_iload_n C 2 dX12_handledBy_54 rfl rfl ?_
      refine v_icmpne C 62 dX12_handledBy_55 (by decide) h (fun _ h => ?_) (fun _ h => ?_)
      · refine v_iconst C (0 : Int32) dX12_handledBy_62 (by decide) ?_
        refine v_iadd C dX12_handledBy_63 ?_
        refine v_lti h (fun y6 h => ?_)
        refine v_istore_n C [(3, .int y6), (0, .ref (bs + a0)), (1, .int x1), (2, .int x2), (4, .int x4), (5, .int x5)] dX12_handledBy_64 rfl (by decide) rfl ?_
        refine v_iinc C 5 (x5 + (1 : Int32)) [(5, .int (x5 + (1 : Int32))), (3, .int y6), (0, .ref (bs + a0)), (1, .int x1), (2, .int x2), (4, .int x4)] dX12_handledBy_65 rfl rfl (by decide) rfl ?_
        refine v_goto C 14 dX12_handledBy_68 (by decide) ?_
        refine v_sub [(0, .ref (bs + a0)), (1, .int x1), (2, .int x2), (3, .int y6), (4, .int x4), (5, .int (x5 + (1 : Int32)))] [2, 3, 4, 1, 5, 0] rfl ?_
        exact hk y6 (x5 + (1 : Int32)) _ h g
      · refine v_iconst C (1 : Int32) dX12_handledBy_58 (by decide) ?_
        refine v_goto C 63 dX12_handledBy_59 (by decide) ?_
        refine v_iadd C dX12_handledBy_63 ?_
        refine v_lti h (fun y7 h => ?_)
        refine v_istore_n C [(3, .int y7), (0, .ref (bs + a0)), (1, .int x1), (2, .int x2), (4, .int x4), (5, .int x5)] dX12_handledBy_64 rfl (by decide) rfl ?_
        refine v_iinc C 5 (x5 + (1 : Int32)) [(5, .int (x5 + (1 : Int32))), (3, .int y7), (0, .ref (bs + a0)), (1, .int x1), (2, .int x2), (4, .int x4)] dX12_handledBy_65 rfl rfl (by decide) rfl ?_
        refine v_goto C 14 dX12_handledBy_68 (by decide) ?_
        refine v_sub [(0, .ref (bs + a0)), (1, .int x1), (2, .int x2), (3, .int y7), (4, .int x4), (5, .int (x5 + (1 : Int32)))] [2, 3, 4, 1, 5, 0] rfl ?_
        exact hk y7 (x5 + (1 : Int32)) _ h g
set_option maxRecDepth 100000 in
set_option maxHeartbeats 4000000 in
theorem wX12_handledBy_B5 {X : UX} {D : UD} {bs tw : Nat} {u0 : UH} {r : Int32} (C : uCx X D bs tw cX12_handledBy 6 RX12 (some .int)) (hin : X.2.2.2.2.2.2.2.1.name = "handledBy") {a0 : Nat} {x1 : Int32} {x2 : Int32}  {G : Int32 → Prop} {k : Int32 → Int32 → Option Int32} (hk : ∀ (x3 : Int32) (x4 : Int32)  e, k x3 x4  = some e → G e → VV X D bs u0 rmX12_handledBy 6 0 0 (MQ X.2.2.2.2.2.2.1 (uQi D bs u0 u0 r) X.2.2.2.2.2.1 X.2.2.2.1 0 0 (uA bs u0)) u0 5 [(0, .ref (bs + a0)), (1, .int x1), (2, .int x2), (3, .int x3), (4, .int x4)] []) (hex : ∀ (x3 : Int32) , G x3 → VV X D bs u0 rmX12_handledBy 6 0 0 (MQ X.2.2.2.2.2.2.1 (uQi D bs u0 u0 r) X.2.2.2.2.2.1 X.2.2.2.1 0 0 (uA bs u0)) u0 77 [(3, .int x3)] [])  : ∀ (x3 : Int32) (x4 : Int32)  e, fX12_handledBy_B5 a0 x1 x2 u0 k x3 x4  = some e → G e → VV X D bs u0 rmX12_handledBy 6 0 0 (MQ X.2.2.2.2.2.2.1 (uQi D bs u0 u0 r) X.2.2.2.2.2.1 X.2.2.2.1 0 0 (uA bs u0)) u0 5 [(0, .ref (bs + a0)), (1, .int x1), (2, .int x2), (3, .int x3), (4, .int x4)] [] := by
  intro x3 x4  e h g
  unfold fX12_handledBy_B5 at h
  refine v_iload C 4 dX12_handledBy_5 rfl ?_
  refine v_iconst C (4 : Int32) dX12_handledBy_7 (by decide) ?_
  refine v_icmpge C 77 dX12_handledBy_8 (by decide) h (fun _ h => ?_) (fun _ h => ?_)
  · refine v_sub [(3, .int x3)] [3] rfl ?_
    exact hex x3 ((Option.some.inj h).symm ▸ g)
  · refine v_iconst C (0 : Int32) dX12_handledBy_11 (by decide) ?_
    refine v_istore C [(5, .int (0 : Int32)), (0, .ref (bs + a0)), (1, .int x1), (2, .int x2), (3, .int x3), (4, .int x4)] dX12_handledBy_12 (by decide) rfl ?_
    refine v_sub [(0, .ref (bs + a0)), (1, .int x1), (2, .int x2), (3, .int x3), (4, .int x4), (5, .int (0 : Int32))] [1, 2, 3, 4, 5, 0] rfl ?_
    refine it2_O (V := fun x3 x5 => VV X D bs u0 rmX12_handledBy 6 0 0 (MQ X.2.2.2.2.2.2.1 (uQi D bs u0 u0 r) X.2.2.2.2.2.1 X.2.2.2.1 0 0 (uA bs u0)) u0 14 [(0, .ref (bs + a0)), (1, .int x1), (2, .int x2), (3, .int x3), (4, .int x4), (5, .int x5)] []) h (fun k_ hk_ => wX12_handledBy_B14 C hin hk_ ?_ )
    intro z9 h
    try dsimp only [Sum.elim_inl] at h
    refine v_iinc C 4 (x4 + (1 : Int32)) [(4, .int (x4 + (1 : Int32))), (0, .ref (bs + a0)), (1, .int x1), (2, .int x2), (3, .int z9)] dX12_handledBy_71 rfl rfl (by decide) rfl ?_
    refine v_goto C 5 dX12_handledBy_74 (by decide) ?_
    refine v_sub [(0, .ref (bs + a0)), (1, .int x1), (2, .int x2), (3, .int z9), (4, .int (x4 + (1 : Int32)))] [1, 2, 3, 4, 0] rfl ?_
    exact hk z9 (x4 + (1 : Int32)) _ h g
set_option maxRecDepth 100000 in
set_option maxHeartbeats 4000000 in
theorem mX12_handledBy {l : Launch} {D : UD} {bs : Nat} {a0 : Nat} {x1 : Int32} {x2 : Int32} {u0 : UH} {r : Int32} (h : fX12_handledBy a0 x1 x2 u0 = some r) : Met l yX12_handledBy (wz yX12_handledBy cX12_handledBy 6 (some .int)) rmX12_handledBy (va_Pc [.ref (bs + a0), .int x1, .int x2] (uIn D bs u0)) (uQi D bs u0 u0 r) 0 0 (uA bs u0) := by
  refine uMet (by decide) (Nat.le_of_ble_eq_true rfl) ?_
  intro X tw hX C hin
  have C : uCx X D bs tw cX12_handledBy 6 RX12 (some .int) := C
  have hin : X.2.2.2.2.2.2.2.1.name = "handledBy" := hin
  refine v_L [(0, .ref (bs + a0)), (1, .int x1), (2, .int x2)] rfl ?_
  unfold fX12_handledBy at h
  refine v_iconst C (0 : Int32) dX12_handledBy_0 (by decide) ?_
  refine v_istore_n C [(3, .int (0 : Int32)), (0, .ref (bs + a0)), (1, .int x1), (2, .int x2)] dX12_handledBy_1 rfl (by decide) rfl ?_
  refine v_iconst C (0 : Int32) dX12_handledBy_2 (by decide) ?_
  refine v_istore C [(4, .int (0 : Int32)), (3, .int (0 : Int32)), (0, .ref (bs + a0)), (1, .int x1), (2, .int x2)] dX12_handledBy_3 (by decide) rfl ?_
  refine v_sub [(0, .ref (bs + a0)), (1, .int x1), (2, .int x2), (3, .int (0 : Int32)), (4, .int (0 : Int32))] [2, 3, 4, 1, 0] rfl ?_
  refine it2_O (V := fun x3 x4 => VV X D bs u0 rmX12_handledBy 6 0 0 (MQ X.2.2.2.2.2.2.1 (uQi D bs u0 u0 r) X.2.2.2.2.2.1 X.2.2.2.1 0 0 (uA bs u0)) u0 5 [(0, .ref (bs + a0)), (1, .int x1), (2, .int x2), (3, .int x3), (4, .int x4)] []) h (fun k_ hk_ => wX12_handledBy_B5 C hin hk_ ?_ )
  intro z11 h
  try dsimp only [Sum.elim_inl] at h
  refine v_iload_n C 0 dX12_handledBy_77 rfl rfl ?_
  exact v_iret C dX12_handledBy_78 rfl (Option.some.inj h)
set_option maxRecDepth 100000 in
set_option maxHeartbeats 4000000 in
theorem wX12_arrivals_80 {X : UX} {D : UD} {bs tw : Nat} {u0 : UH} {r : Int32} {v : UH} (C : uCx X D bs tw cX12_arrivals 6 RX12 (some .int)) (hin : X.2.2.2.2.2.2.2.1.name = "arrivals") {a0 : Nat} {x1 : Int32} {x2 : Int32} {u : UH} {G : Int32 → Prop} {k : Int32 → Int32 → Option Int32} (hk : ∀ (x4 : Int32) (x5 : Int32)  e, k x4 x5  = some e → G e → VV X D bs u0 rmX12_arrivals 6 0 0 (MQ X.2.2.2.2.2.2.1 (uQi D bs u0 v r) X.2.2.2.2.2.1 X.2.2.2.1 0 0 (uA bs u0)) u 53 [(0, .ref (bs + a0)), (1, .int x1), (2, .int x2), (4, .int x4), (5, .int x5)] []) (hex : ∀ (x4 : Int32) , G x4 → VV X D bs u0 rmX12_arrivals 6 0 0 (MQ X.2.2.2.2.2.2.1 (uQi D bs u0 v r) X.2.2.2.2.2.1 X.2.2.2.1 0 0 (uA bs u0)) u 100 [(4, .int x4)] [])  {x5 : Int32} {s0 : Int32}  {e : Int32} (h : fX12_arrivals_80 k a0 x1 x2 x5 s0 u = some e) (g : G e) : VV X D bs u0 rmX12_arrivals 6 0 0 (MQ X.2.2.2.2.2.2.1 (uQi D bs u0 v r) X.2.2.2.2.2.1 X.2.2.2.1 0 0 (uA bs u0)) u 80 [(0, .ref (bs + a0)), (1, .int x1), (2, .int x2), (5, .int x5)] [.int s0] := by
  unfold fX12_arrivals_80 at h
  refine v_aload_n C 0 dX12_arrivals_80 rfl rfl ?_
  refine v_iload_n C 1 dX12_arrivals_81 rfl rfl ?_
  refine v_iload C 3 dX12_arrivals_82 rfl ?_
  obtain ⟨y6, h1, h⟩ := ob_some h
  obtain ⟨hkd, h1⟩ := kd_some h1
  refine v_goi (rn_V C gcX12_182 (RX12, TX12, 33) rfl rfl (by decide) hkd (mX12_handledBy h1) ⟨rfl, rfl⟩ rfl ⟨Nat.le_of_ble_eq_true rfl, Nat.le_of_ble_eq_true rfl⟩ (rest := [.int s0]) rfl (Nat.le_of_ble_eq_true rfl) ⟨Nat.le_of_ble_eq_true rfl, Nat.le_of_ble_eq_true rfl⟩ dX12_arrivals_84) ?_
  refine v_goto C 91 dX12_arrivals_87 (by decide) ?_
  refine v_iadd C dX12_arrivals_91 ?_
  refine v_lti h (fun y7 h => ?_)
  refine v_istore C [(4, .int y7), (0, .ref (bs + a0)), (1, .int x1), (2, .int x2), (5, .int x5)] dX12_arrivals_92 (by decide) rfl ?_
  refine v_iinc C 4 (x5 + (1 : Int32)) [(5, .int (x5 + (1 : Int32))), (4, .int y7), (0, .ref (bs + a0)), (1, .int x1), (2, .int x2)] dX12_arrivals_94 rfl rfl (by decide) rfl ?_
  refine v_goto C 53 dX12_arrivals_97 (by decide) ?_
  refine v_sub [(0, .ref (bs + a0)), (1, .int x1), (2, .int x2), (4, .int y7), (5, .int (x5 + (1 : Int32)))] [2, 3, 4, 1, 0] rfl ?_
  exact hk y7 (x5 + (1 : Int32)) _ h g
set_option maxRecDepth 100000 in
set_option maxHeartbeats 4000000 in
theorem wX12_arrivals_B53 {X : UX} {D : UD} {bs tw : Nat} {u0 : UH} {r : Int32} {v : UH} (C : uCx X D bs tw cX12_arrivals 6 RX12 (some .int)) (hin : X.2.2.2.2.2.2.2.1.name = "arrivals") {a0 : Nat} {x1 : Int32} {x2 : Int32} {u : UH} {G : Int32 → Prop} {k : Int32 → Int32 → Option Int32} (hk : ∀ (x4 : Int32) (x5 : Int32)  e, k x4 x5  = some e → G e → VV X D bs u0 rmX12_arrivals 6 0 0 (MQ X.2.2.2.2.2.2.1 (uQi D bs u0 v r) X.2.2.2.2.2.1 X.2.2.2.1 0 0 (uA bs u0)) u 53 [(0, .ref (bs + a0)), (1, .int x1), (2, .int x2), (4, .int x4), (5, .int x5)] []) (hex : ∀ (x4 : Int32) , G x4 → VV X D bs u0 rmX12_arrivals 6 0 0 (MQ X.2.2.2.2.2.2.1 (uQi D bs u0 v r) X.2.2.2.2.2.1 X.2.2.2.1 0 0 (uA bs u0)) u 100 [(4, .int x4)] [])  : ∀ (x4 : Int32) (x5 : Int32)  e, fX12_arrivals_B53 a0 x1 x2 u k x4 x5  = some e → G e → VV X D bs u0 rmX12_arrivals 6 0 0 (MQ X.2.2.2.2.2.2.1 (uQi D bs u0 v r) X.2.2.2.2.2.1 X.2.2.2.1 0 0 (uA bs u0)) u 53 [(0, .ref (bs + a0)), (1, .int x1), (2, .int x2), (4, .int x4), (5, .int x5)] [] := by
  intro x4 x5  e h g
  unfold fX12_arrivals_B53 at h
  refine v_iload C 4 dX12_arrivals_53 rfl ?_
  refine v_aload_n C 0 dX12_arrivals_55 rfl rfl ?_
  refine v_iload_n C 1 dX12_arrivals_56 rfl rfl ?_
  obtain ⟨y5, h1, h⟩ := ob_some h
  obtain ⟨hkd, h1⟩ := kd_some h1
  refine v_goi (rn_V C gcX12_110 (RX12, TX12, 33) rfl rfl (by decide) hkd (mX12_many h1) ⟨rfl, rfl⟩ rfl ⟨Nat.le_of_ble_eq_true rfl, Nat.le_of_ble_eq_true rfl⟩ (rest := [.int x5]) rfl (Nat.le_of_ble_eq_true rfl) ⟨Nat.le_of_ble_eq_true rfl, Nat.le_of_ble_eq_true rfl⟩ dX12_arrivals_57) ?_
  refine v_icmpge C 100 dX12_arrivals_60 (by decide) h (fun _ h => ?_) (fun _ h => ?_)
  · refine v_sub [(4, .int x4)] [3] rfl ?_
    exact hex x4 ((Option.some.inj h).symm ▸ g)
  · refine v_iload C 3 dX12_arrivals_63 rfl ?_
    refine v_iload_n C 2 dX12_arrivals_65 rfl rfl ?_
    refine v_ifeq C 80 dX12_arrivals_66 (by decide) h (fun _ h => ?_) (fun _ h => ?_)
    · refine v_sub [(0, .ref (bs + a0)), (1, .int x1), (2, .int x2), (5, .int x5)] [0, 1, 2, 4] rfl ?_
      exact wX12_arrivals_80 C hin hk hex  h g
    · refine v_aload_n C 0 dX12_arrivals_69 rfl rfl ?_
      refine v_iload_n C 1 dX12_arrivals_70 rfl rfl ?_
      refine v_iload C 4 dX12_arrivals_71 rfl ?_
      refine v_iconst C (3 : Int32) dX12_arrivals_73 (by decide) ?_
      obtain ⟨y8, h1, h⟩ := ob_some h
      obtain ⟨hkd, h1⟩ := kd_some h1
      refine v_goi (rn_V C gcX12_114 (RX12, TX12, 33) rfl rfl (by decide) hkd (mX12_of h1) ⟨rfl, rfl⟩ rfl ⟨Nat.le_of_ble_eq_true rfl, Nat.le_of_ble_eq_true rfl⟩ (rest := [.int x4]) rfl (Nat.le_of_ble_eq_true rfl) ⟨Nat.le_of_ble_eq_true rfl, Nat.le_of_ble_eq_true rfl⟩ dX12_arrivals_74) ?_
      refine v_ifne C 90 dX12_arrivals_77 (by decide) h (fun _ h => ?_) (fun _ h => ?_)
      · refine v_iconst C (0 : Int32) dX12_arrivals_90 (by decide) ?_
        refine v_iadd C dX12_arrivals_91 ?_
        refine v_lti h (fun y9 h => ?_)
        refine v_istore C [(4, .int y9), (0, .ref (bs + a0)), (1, .int x1), (2, .int x2), (5, .int x5)] dX12_arrivals_92 (by decide) rfl ?_
        refine v_iinc C 4 (x5 + (1 : Int32)) [(5, .int (x5 + (1 : Int32))), (4, .int y9), (0, .ref (bs + a0)), (1, .int x1), (2, .int x2)] dX12_arrivals_94 rfl rfl (by decide) rfl ?_
        refine v_goto C 53 dX12_arrivals_97 (by decide) ?_
        refine v_sub [(0, .ref (bs + a0)), (1, .int x1), (2, .int x2), (4, .int y9), (5, .int (x5 + (1 : Int32)))] [2, 3, 4, 1, 0] rfl ?_
        exact hk y9 (x5 + (1 : Int32)) _ h g
      · refine v_sub [(0, .ref (bs + a0)), (1, .int x1), (2, .int x2), (5, .int x5)] [0, 1, 2, 4] rfl ?_
        exact wX12_arrivals_80 C hin hk hex  h g
set_option maxRecDepth 100000 in
set_option maxHeartbeats 4000000 in
theorem wX12_arrivals_48 {X : UX} {D : UD} {bs tw : Nat} {u0 : UH} {r : Int32} {v : UH} (C : uCx X D bs tw cX12_arrivals 6 RX12 (some .int)) (hin : X.2.2.2.2.2.2.2.1.name = "arrivals") {a0 : Nat} {x1 : Int32} {x2 : Int32} {s0 : Int32} {u : UH} (h : fX12_arrivals_48 a0 x1 x2 s0 u = some (r, v)) : VV X D bs u0 rmX12_arrivals 6 0 0 (MQ X.2.2.2.2.2.2.1 (uQi D bs u0 v r) X.2.2.2.2.2.1 X.2.2.2.1 0 0 (uA bs u0)) u 48 [(0, .ref (bs + a0)), (1, .int x1), (2, .int x2)] [.int s0] := by
  unfold fX12_arrivals_48 at h
  refine v_istore C [(4, .int s0), (0, .ref (bs + a0)), (1, .int x1), (2, .int x2)] dX12_arrivals_48 (by decide) rfl ?_
  refine v_iconst C (0 : Int32) dX12_arrivals_50 (by decide) ?_
  refine v_istore C [(5, .int (0 : Int32)), (4, .int s0), (0, .ref (bs + a0)), (1, .int x1), (2, .int x2)] dX12_arrivals_51 (by decide) rfl ?_
  refine v_sub [(0, .ref (bs + a0)), (1, .int x1), (2, .int x2), (4, .int s0), (5, .int (0 : Int32))] [2, 3, 4, 1, 0] rfl ?_
  refine it2_O (V := fun x4 x5 => VV X D bs u0 rmX12_arrivals 6 0 0 (MQ X.2.2.2.2.2.2.1 (uQi D bs u0 v r) X.2.2.2.2.2.1 X.2.2.2.1 0 0 (uA bs u0)) u 53 [(0, .ref (bs + a0)), (1, .int x1), (2, .int x2), (4, .int x4), (5, .int x5)] []) h (fun k_ hk_ => wX12_arrivals_B53 C hin hk_ ?_ )
  intro z11 h
  try dsimp only [Sum.elim_inl] at h
  refine v_iload C 0 dX12_arrivals_100 rfl ?_
  exact v_iret C dX12_arrivals_102 (Prod.mk.inj (Option.some.inj h)).2 (Prod.mk.inj (Option.some.inj h)).1
set_option maxRecDepth 100000 in
set_option maxHeartbeats 4000000 in
theorem mX12_arrivals {l : Launch} {D : UD} {bs : Nat} {a0 : Nat} {x1 : Int32} {x2 : Int32} {u0 : UH} {r : Int32} {v : UH} (h : fX12_arrivals a0 x1 x2 u0 = some (r, v)) : Met l yX12_arrivals (wz yX12_arrivals cX12_arrivals 6 (some .int)) rmX12_arrivals (va_Pc [.ref (bs + a0), .int x1, .int x2] (uIn D bs u0)) (uQi D bs u0 v r) 0 0 (uA bs u0) := by
  refine uMet (by decide) (Nat.le_of_ble_eq_true rfl) ?_
  intro X tw hX C hin
  have C : uCx X D bs tw cX12_arrivals 6 RX12 (some .int) := C
  have hin : X.2.2.2.2.2.2.2.1.name = "arrivals" := hin
  refine v_L [(0, .ref (bs + a0)), (1, .int x1), (2, .int x2)] rfl ?_
  unfold fX12_arrivals at h
  refine v_iload_n C 1 dX12_arrivals_0 rfl rfl ?_
  obtain ⟨y1, h1, h⟩ := ob_some h
  refine v_goi (rn_S C gcX12_102 (mX12_noBox h1) ⟨rfl, rfl⟩ rfl ⟨Nat.le_of_ble_eq_true rfl, Nat.le_of_ble_eq_true rfl⟩ (rest := []) rfl (Nat.le_of_ble_eq_true rfl) ⟨Nat.le_of_ble_eq_true rfl, Nat.le_of_ble_eq_true rfl⟩ dX12_arrivals_1) ?_
  refine v_ifeq C 9 dX12_arrivals_4 (by decide) h (fun _ h => ?_) (fun _ h => ?_)
  · refine v_iload_n C 2 dX12_arrivals_9 rfl rfl ?_
    refine v_iconst C (0 : Int32) dX12_arrivals_10 (by decide) ?_
    refine v_iconst C (2 : Int32) dX12_arrivals_11 (by decide) ?_
    obtain ⟨y2, h1, h⟩ := ob_some h
    refine v_goi (rn_S C gcX12_94 (mX12_in h1) ⟨rfl, rfl⟩ rfl ⟨Nat.le_of_ble_eq_true rfl, Nat.le_of_ble_eq_true rfl⟩ (rest := []) rfl (Nat.le_of_ble_eq_true rfl) ⟨Nat.le_of_ble_eq_true rfl, Nat.le_of_ble_eq_true rfl⟩ dX12_arrivals_12) ?_
    refine v_ifne C 21 dX12_arrivals_15 (by decide) h (fun _ h => ?_) (fun _ h => ?_)
    · refine v_aload_n C 0 dX12_arrivals_21 rfl rfl ?_
      obtain ⟨u3, h1, h⟩ := ob_some h
      obtain ⟨hkd, h1⟩ := kd_some h1
      refine v_gov (rn_V C gcX12_179 (RX12, TX12, 33) rfl rfl (by decide) hkd (mX12_spreadAll h1) ⟨rfl, rfl⟩ rfl ⟨Nat.le_of_ble_eq_true rfl, Nat.le_of_ble_eq_true rfl⟩ (rest := []) rfl (Nat.le_of_ble_eq_true rfl) ⟨Nat.le_of_ble_eq_true rfl, Nat.le_of_ble_eq_true rfl⟩ dX12_arrivals_22) ?_
      refine v_aload_n C 0 dX12_arrivals_25 rfl rfl ?_
      refine v_iload_n C 1 dX12_arrivals_26 rfl rfl ?_
      refine v_iconst C (-1 : Int32) dX12_arrivals_27 (by decide) ?_
      obtain ⟨y4, h1, h⟩ := ob_some h
      obtain ⟨hkd, h1⟩ := kd_some h1
      refine v_goi (rn_V C gcX12_182 (RX12, TX12, 33) rfl rfl (by decide) hkd (mX12_handledBy h1) ⟨rfl, rfl⟩ rfl ⟨Nat.le_of_ble_eq_true rfl, Nat.le_of_ble_eq_true rfl⟩ (rest := []) rfl (Nat.le_of_ble_eq_true rfl) ⟨Nat.le_of_ble_eq_true rfl, Nat.le_of_ble_eq_true rfl⟩ dX12_arrivals_28) ?_
      refine v_istore_n C [(3, .int y4), (0, .ref (bs + a0)), (1, .int x1), (2, .int x2)] dX12_arrivals_31 rfl (by decide) rfl ?_
      refine v_iload_n C 3 dX12_arrivals_32 rfl rfl ?_
      refine v_iconst C (2 : Int32) dX12_arrivals_33 (by decide) ?_
      refine v_icmpne C 39 dX12_arrivals_34 (by decide) h (fun _ h => ?_) (fun _ h => ?_)
      · refine v_iload_n C 3 dX12_arrivals_39 rfl rfl ?_
        refine v_ifne C 47 dX12_arrivals_40 (by decide) h (fun _ h => ?_) (fun _ h => ?_)
        · refine v_iconst C (0 : Int32) dX12_arrivals_47 (by decide) ?_
          refine v_sub [(0, .ref (bs + a0)), (1, .int x1), (2, .int x2)] [1, 2, 3] rfl ?_
          exact wX12_arrivals_48 C hin h
        · refine v_iload_n C 0 dX12_arrivals_43 rfl rfl ?_
          refine v_goto C 48 dX12_arrivals_44 (by decide) ?_
          refine v_sub [(0, .ref (bs + a0)), (1, .int x1), (2, .int x2)] [1, 2, 3] rfl ?_
          exact wX12_arrivals_48 C hin h
      · refine v_iload_n C 0 dX12_arrivals_37 rfl rfl ?_
        exact v_iret C dX12_arrivals_38 (Prod.mk.inj (Option.some.inj h)).2 (Prod.mk.inj (Option.some.inj h)).1
    · refine v_bipush C (-3 : Int32) dX12_arrivals_18 (by decide) ?_
      exact v_iret C dX12_arrivals_20 (Prod.mk.inj (Option.some.inj h)).2 (Prod.mk.inj (Option.some.inj h)).1
  · refine v_iconst C (-1 : Int32) dX12_arrivals_7 (by decide) ?_
    exact v_iret C dX12_arrivals_8 (Prod.mk.inj (Option.some.inj h)).2 (Prod.mk.inj (Option.some.inj h)).1
