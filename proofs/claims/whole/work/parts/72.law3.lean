/-! the law's loop and its start -/
section
variable {p : Program} {l : Launch} {e : Env} {s : State} {m : MethodId} {b : Nat} {below : List Frame} {meth : Method} {c : Code} {H : Heap} {cells slots pc L tw B1 i : Nat} {ls : Array Slot} {st : List Value} {xs : Nat → Int32} {D : UD} {x mU : UH} {T : TS}
theorem lg_new (C : LC p s m meth c b L xs D tw) {index cN N : Nat} (F : uCd RL index cN N) (hsz : s.heap.size ≤ H.size) (hcells : cells + 1 ≤ room_1.cells) (hslots : slots + N ≤ room_1.slots) (hdg : decode code pc = .ok (.new index, 3)) (kk : ∀ H1, uHold D H.size (uNew e0 cN) H1 → H1.size = H.size + 1 → (∀ q, q < H.size → H1[q]? = H[q]?) → LG p l e s m b below meth c H1 (cells + 1) (slots + N) (pc + 3) ls (.ref (H.size + 0) :: st)) : LG p l e s m b below meth c H cells slots pc ls st := by
  have hu : uHold D H.size e0 H := ⟨rfl, fun a ha => absurd rfl ha⟩
  have C1 := C.cx (l := l) (e := e) (below := below) hsz
  obtain ⟨CC, TT, ty0, hc, hin, hty, hdf, h1, h2, h3, h19⟩ := F
  have hts : ∀ w ∈ lw_g, w.before #[Value.ref b] s = true := C1.2.2.2.2.1
  have hKn := C1.2.2.2.2.2.2.2.1.1 cN _ hc
  refine W.newcK C1.1 C1.2.1 C1.2.2.2.1 (hts _ h1) (hts _ h2) (hts _ h3) rfl hdg hcells hslots hKn.2.1 hu.1.symm fun H1 kC hkC e1 z1 o1 => ?_
  refine kk H1 (hu.push rfl same_new z1 (fun q hq => o1 q hq) ?_) z1 (fun q hq => o1 q hq)
  unfold uAt
  have hk : uKd (uNew e0 cN) (uSz e0) = cN + 1 := (fun (u : UH) => (if_pos rfl : uKd (uNew u cN) (uSz u) = cN + 1)) e0
  rw [hk, if_pos (by omega)]
  refine ⟨_, hc, (u_born ty0 hts hin hKn hkC e1 hty).to (fun j hj => ?_)⟩
  rw [hdf j hj]
  show uDf cN j = uVal H.size (uNew e0 cN) cN j (uSz e0)
  have key : ∀ n : Nat, (match n with | 0 => Value.int 0 | 1 => Value.long 0 | _ => Value.null) = (match n with | 0 => Value.int (uI (uNew e0 cN) cN j (uSz e0)) | 1 => Value.long (uJ (uNew e0 cN) cN j (uSz e0)) | _ => va_rf ((uR (uNew e0 cN) cN j (uSz e0)).map (fun q => H.size + q))) := by
    intro n
    match n with
    | 0 => simp [uNew, uI]
    | 1 => simp [uNew, uJ]
    | n + 2 => simp [uNew, uR, va_rf]
  exact key _
theorem lsw (C : LC p s m meth c b L xs D tw) (hL : L ≤ 3584) (hR : RR T x mU) (hH : LH D s B1 x mU H) (hl : lv_has ls 4 [(0, .ref b), (1, .ref (s.heap.size + 0)), (2, .ref (B1 + 0)), (3, .int (nI i))]) (hi : i + 6 < L) (hc : cells + 1 ≤ 600000) (hs : slots + 8 ≤ 7302250) (K : ∀ T' x' m' H', RR T' x' m' → LH D s B1 x' m' H' → LG p l e s m b below meth c H' (cells + 1) (slots + 8) 1510 ls []) {k : Nat} (hk : k < 64) : LG p l e s m b below meth c H cells slots 33 ls [.int (nI k)] := by
  have hx := C.1.1
  have hb := C.1.2.1
  rcases Nat.lt_or_ge k 36 with h | h
  · match k, h with
    | 0, _ => exact lv_tableIn (off := 159) (tgt := 192) hx hb dL_law_33 (by decide) (by decide) (by decide +kernel) rfl (lcs_0 C hL hR hH hl hi hc hs K)
    | 1, _ => exact lv_tableIn (off := 182) (tgt := 215) hx hb dL_law_33 (by decide) (by decide) (by decide +kernel) rfl (lcs_1 C hL hR hH hl hi hc hs K)
    | 2, _ => exact lv_tableIn (off := 235) (tgt := 268) hx hb dL_law_33 (by decide) (by decide) (by decide +kernel) rfl (lcs_2 C hL hR hH hl hi hc hs K)
    | 3, _ => exact lv_tableIn (off := 268) (tgt := 301) hx hb dL_law_33 (by decide) (by decide) (by decide +kernel) rfl (lcs_3 C hL hR hH hl hi hc hs K)
    | 4, _ => exact lv_tableIn (off := 301) (tgt := 334) hx hb dL_law_33 (by decide) (by decide) (by decide +kernel) rfl (lcs_4 C hL hR hH hl hi hc hs K)
    | 5, _ => exact lv_tableIn (off := 364) (tgt := 397) hx hb dL_law_33 (by decide) (by decide) (by decide +kernel) rfl (lcs_5 C hL hR hH hl hi hc hs K)
    | 6, _ => exact lv_tableIn (off := 439) (tgt := 472) hx hb dL_law_33 (by decide) (by decide) (by decide +kernel) rfl (lcs_6 C hL hR hH hl hi hc hs K)
    | 7, _ => exact lv_tableIn (off := 492) (tgt := 525) hx hb dL_law_33 (by decide) (by decide) (by decide +kernel) rfl (lcs_7 C hL hR hH hl hi hc hs K)
    | 8, _ => exact lv_tableIn (off := 525) (tgt := 558) hx hb dL_law_33 (by decide) (by decide) (by decide +kernel) rfl (lcs_8 C hL hR hH hl hi hc hs K)
    | 9, _ => exact lv_tableIn (off := 568) (tgt := 601) hx hb dL_law_33 (by decide) (by decide) (by decide +kernel) rfl (lcs_9 C hL hR hH hl hi hc hs K)
    | 10, _ => exact lv_tableIn (off := 627) (tgt := 660) hx hb dL_law_33 (by decide) (by decide) (by decide +kernel) rfl (lcs_10 C hL hR hH hl hi hc hs K)
    | 11, _ => exact lv_tableIn (off := 640) (tgt := 673) hx hb dL_law_33 (by decide) (by decide) (by decide +kernel) rfl (lcs_11 C hL hR hH hl hi hc hs K)
    | 12, _ => exact lv_tableIn (off := 683) (tgt := 716) hx hb dL_law_33 (by decide) (by decide) (by decide +kernel) rfl (lcs_12 C hL hR hH hl hi hc hs K)
    | 13, _ => exact lv_tableIn (off := 706) (tgt := 739) hx hb dL_law_33 (by decide) (by decide) (by decide +kernel) rfl (lcs_13 C hL hR hH hl hi hc hs K)
    | 14, _ => exact lv_tableIn (off := 729) (tgt := 762) hx hb dL_law_33 (by decide) (by decide) (by decide +kernel) rfl (lcs_14 C hL hR hH hl hi hc hs K)
    | 15, _ => exact lv_tableIn (off := 782) (tgt := 815) hx hb dL_law_33 (by decide) (by decide) (by decide +kernel) rfl (lcs_15 C hL hR hH hl hi hc hs K)
    | 16, _ => exact lv_tableIn (off := 816) (tgt := 849) hx hb dL_law_33 (by decide) (by decide) (by decide +kernel) rfl (lcs_16 C hL hR hH hl hi hc hs K)
    | 17, _ => exact lv_tableIn (off := 850) (tgt := 883) hx hb dL_law_33 (by decide) (by decide) (by decide +kernel) rfl (lcs_17 C hL hR hH hl hi hc hs K)
    | 18, _ => exact lv_tableIn (off := 883) (tgt := 916) hx hb dL_law_33 (by decide) (by decide) (by decide +kernel) rfl (lcs_18 C hL hR hH hl hi hc hs K)
    | 19, _ => exact lv_tableIn (off := 916) (tgt := 949) hx hb dL_law_33 (by decide) (by decide) (by decide +kernel) rfl (lcs_19 C hL hR hH hl hi hc hs K)
    | 20, _ => exact lv_tableIn (off := 969) (tgt := 1002) hx hb dL_law_33 (by decide) (by decide) (by decide +kernel) rfl (lcs_20 C hL hR hH hl hi hc hs K)
    | 21, _ => exact lv_tableIn (off := 1012) (tgt := 1045) hx hb dL_law_33 (by decide) (by decide) (by decide +kernel) rfl (lcs_21 C hL hR hH hl hi hc hs K)
    | 22, _ => exact lv_tableIn (off := 1055) (tgt := 1088) hx hb dL_law_33 (by decide) (by decide) (by decide +kernel) rfl (lcs_22 C hL hR hH hl hi hc hs K)
    | 23, _ => exact lv_tableIn (off := 1088) (tgt := 1121) hx hb dL_law_33 (by decide) (by decide) (by decide +kernel) rfl (lcs_23 C hL hR hH hl hi hc hs K)
    | 24, _ => exact lv_tableIn (off := 1111) (tgt := 1144) hx hb dL_law_33 (by decide) (by decide) (by decide +kernel) rfl (lcs_24 C hL hR hH hl hi hc hs K)
    | 25, _ => exact lv_tableIn (off := 1125) (tgt := 1158) hx hb dL_law_33 (by decide) (by decide) (by decide +kernel) rfl (lcs_25 C hL hR hH hl hi hc hs K)
    | 26, _ => exact lv_tableIn (off := 1158) (tgt := 1191) hx hb dL_law_33 (by decide) (by decide) (by decide +kernel) rfl (lcs_26 C hL hR hH hl hi hc hs K)
    | 27, _ => exact lv_tableIn (off := 1201) (tgt := 1234) hx hb dL_law_33 (by decide) (by decide) (by decide +kernel) rfl (lcs_27 C hL hR hH hl hi hc hs K)
    | 28, _ => exact lv_tableIn (off := 1280) (tgt := 1313) hx hb dL_law_33 (by decide) (by decide) (by decide +kernel) rfl (lcs_28 C hL hR hH hl hi hc hs K)
    | 29, _ => exact lv_tableIn (off := 1323) (tgt := 1356) hx hb dL_law_33 (by decide) (by decide) (by decide +kernel) rfl (lcs_29 C hL hR hH hl hi hc hs K)
    | 30, _ => exact lv_tableIn (off := 1347) (tgt := 1380) hx hb dL_law_33 (by decide) (by decide) (by decide +kernel) rfl (lcs_30 C hL hR hH hl hi hc hs K)
    | 31, _ => exact lv_tableIn (off := 1360) (tgt := 1393) hx hb dL_law_33 (by decide) (by decide) (by decide +kernel) rfl (lcs_31 C hL hR hH hl hi hc hs K)
    | 32, _ => exact lv_tableIn (off := 1373) (tgt := 1406) hx hb dL_law_33 (by decide) (by decide) (by decide +kernel) rfl (lcs_32 C hL hR hH hl hi hc hs K)
    | 33, _ => exact lv_tableIn (off := 1398) (tgt := 1431) hx hb dL_law_33 (by decide) (by decide) (by decide +kernel) rfl (lcs_33 C hL hR hH hl hi hc hs K)
    | 34, _ => exact lv_tableIn (off := 1411) (tgt := 1444) hx hb dL_law_33 (by decide) (by decide) (by decide +kernel) rfl (lcs_34 C hL hR hH hl hi hc hs K)
    | 35, _ => exact lv_tableIn (off := 1434) (tgt := 1467) hx hb dL_law_33 (by decide) (by decide) (by decide +kernel) rfl (lcs_35 C hL hR hH hl hi hc hs K)
    | k + 36, h => exact absurd h (by omega)
  · refine lv_tableOut (tgt := 1510) hx hb dL_law_33 (Or.inr ?_) rfl (W.widen (Nat.le_add_right _ 1) (Nat.le_add_right _ 8) (K T x mU H hR hH))
    rw [nI_toInt (by omega)]
    omega
theorem lloop (C : LC p s m meth c b L xs D tw) (hL : L ≤ 3584) : ∀ (n j : Nat) (T : TS) (x mU : UH) (H : Heap) (ls : Array Slot), L < 7 * j + n → 7 * j ≤ L → RR T x mU → LH D s B1 x mU H → lv_has ls 4 [(0, .ref b), (1, .ref (s.heap.size + 0)), (2, .ref (B1 + 0)), (3, .int (nI (7 * j)))] → LG p l e s m b below meth c H (100 + j) (8000 + 8 * j) 18 ls []
  | 0, j, T, x, mU, H, ls, h1, h2, _, _, _ => absurd h1 (by omega)
  | n + 1, j, T, x, mU, H, ls, h1, h2, hR, hH, hl => by
    obtain ⟨hx, hb, hr, hml, hown, hts, hX, hbl, hlocks, hgv⟩ := id C.1
    refine lv_iload_n hx hb dL_law_18 rfl (lv_at hl 3 rfl) (lv_aload_n hx hb dL_law_19 rfl (lv_at hl 0 rfl) (va_slen hx hb hX hbl (fun z => Nat.not_le.mpr hbl z) hH.S dL_law_20 (lv_bipush (v := nI 7) hx hb dL_law_21 (by decide) (lv_isub hx hb dL_law_23 (lv_icmp_gt (tgt := 1516) hx hb dL_law_24 rfl (fun h => ?_) (fun h => ?_))))))
    · exact lv_iconst (v := 1) hx hb dL_law_1516 (by decide) (W.widen (k := 600000) (n := 7302250) (by omega) (by omega) (lw_ret hx hb hr hlocks dL_law_1517))
    · have q2 := pk_sub_toInt (a := L) (b := 7) (by omega) (by decide)
      have q3 := nI_toInt (n := 7 * j) (by omega)
      have q4 : ¬ (nI L - nI 7).toInt < (nI (7 * j)).toInt := fun z => h (Int32.lt_iff_toInt_lt.mpr z)
      rw [q2, q3] at q4
      refine lv_aload_n hx hb dL_law_27 rfl (lv_at hl 0 rfl) (lv_iload_n hx hb dL_law_28 rfl (lv_at hl 3 rfl) (va_sld hx hb hX hbl (fun z => Nat.not_le.mpr hbl z) hH.S (nI_in (N := L) (by omega) (by omega)) dL_law_29 (lv_bipush (v := nI 63) hx hb dL_law_30 (by decide) (lv_iand hx hb dL_law_32 ?_))))
      obtain ⟨k, hk, ek⟩ := pk_andE (xs (nI (7 * j)).toNatClampNeg) (m := nI 63) 6 (by decide)
      rw [ek]
      refine lsw C hL hR hH hl (by omega) (by omega) (by omega) (fun T' x' m' H' hR' hH' => ?_) hk
      refine lv_iinc (k := 3) (v := nI (7 * j + 7)) hx hb dL_law_1510 hl rfl (by rw [show Int32.ofInt 7 = nI 7 by decide]; exact nI_add _ _) (by decide) rfl (fun ls' hl' => lv_goto (tgt := 18) hx hb dL_law_1513 rfl ?_)
      exact W.widen (k := 100 + (j + 1)) (n := 8000 + 8 * (j + 1)) (by omega) (by omega) (lloop C hL n (j + 1) T' x' m' H' ls' (by omega) (by omega) hR' hH' (lv_sub hl' [1, 2, 3, 0] rfl))
end
