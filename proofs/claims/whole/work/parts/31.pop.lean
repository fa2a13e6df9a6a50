theorem wb_tb (n : Nat) : (lN n).toBitVec = BitVec.ofNat 64 n := rfl
theorem wb_inj {a b : Int64} (h : a.toBitVec = b.toBitVec) : a = b := Int64.toBitVec_inj.mp h
theorem wb_tn {n : Nat} (h : n < 2 ^ 64) : (lN n).toBitVec.toNat = n := by rw [wb_tb, BitVec.toNat_ofNat, Nat.mod_eq_of_lt h]
theorem wb_of (x : Int64) : ∃ n, n < 2 ^ 64 ∧ x = lN n := ⟨x.toBitVec.toNat, x.toBitVec.isLt, wb_inj (by rw [wb_tb]; simp)⟩
theorem wb_of32 (x : Int32) : ∃ n, n < 2 ^ 32 ∧ x = nI n := ⟨x.toBitVec.toNat, x.toBitVec.isLt, Int32.toBitVec_inj.mp (by show _ = BitVec.ofNat 32 _; simp)⟩
theorem wb_c : ∀ k, k < 64 → ((nI k).toInt64 &&& 63) = lN k := by decide +kernel
theorem wb_cu : ∀ k, k < 64 → ((nI k).toInt64.toUInt64 &&& Int64.toUInt64 63) = UInt64.ofNat k := by decide +kernel
theorem wb_sm : ∀ k, k < 64 → (BitVec.ofNat 64 k).smod 64 = BitVec.ofNat 64 k := by decide +kernel
theorem wb_pw {a b : Nat} (h : a ≤ b) : 2 ^ b = 2 ^ a * 2 ^ (b - a) := by rw [← Nat.pow_add]; congr 1; omega
theorem wb_lt2 {a b : Nat} (h : a < b) : 2 ^ a < 2 ^ b := Nat.pow_lt_pow_right (by decide) h
theorem wb_mod (n : Nat) : lN n = lN (n % 2 ^ 64) := wb_inj (by rw [wb_tb, wb_tb]; apply BitVec.eq_of_toNat_eq; rw [BitVec.toNat_ofNat, BitVec.toNat_ofNat, Nat.mod_mod])
theorem wb_shr {n k : Nat} (hn : n < 2 ^ 64) (hk : k < 64) : ((lN n).toUInt64 >>> ((nI k).toInt64.toUInt64 &&& Int64.toUInt64 63)).toInt64 = lN (n / 2 ^ k) := by
  rw [wb_cu k hk]
  apply wb_inj
  apply BitVec.eq_of_toNat_eq
  show ((lN n).toUInt64 >>> UInt64.ofNat k).toNat = (BitVec.ofNat 64 _).toNat
  have h1 : (UInt64.ofNat k).toNat = k := by
    show (BitVec.ofNat 64 k).toNat = k
    rw [BitVec.toNat_ofNat, Nat.mod_eq_of_lt (by omega)]
  have h2 : (lN n).toUInt64.toNat = n := wb_tn hn
  rw [UInt64.toNat_shiftRight, h1, h2, Nat.mod_eq_of_lt hk, Nat.shiftRight_eq_div_pow, BitVec.toNat_ofNat, Nat.mod_eq_of_lt (Nat.lt_of_le_of_lt (Nat.div_le_self _ _) hn)]
theorem wb_shl (n : Nat) {k : Nat} (hk : k < 64) : lN n <<< ((nI k).toInt64 &&& 63) = lN (n * 2 ^ k) := by
  rw [wb_c k hk]
  apply wb_inj
  rw [Int64.toBitVec_shiftLeft, wb_tb, wb_tb, wb_tb, wb_sm k hk]
  apply BitVec.eq_of_toNat_eq
  rw [BitVec.shiftLeft_eq', BitVec.toNat_shiftLeft, BitVec.toNat_ofNat, BitVec.toNat_ofNat, BitVec.toNat_ofNat, Nat.mod_eq_of_lt (show k < 2 ^ 64 by omega), Nat.shiftLeft_eq, Nat.mul_mod, Nat.mod_mod, ← Nat.mul_mod]
theorem wb_and {a b : Nat} (ha : a < 2 ^ 64) (hb : b < 2 ^ 64) : lN a &&& lN b = lN (a &&& b) := by
  apply wb_inj
  rw [Int64.toBitVec_and, wb_tb, wb_tb, wb_tb]
  apply BitVec.eq_of_toNat_eq
  rw [BitVec.toNat_and, BitVec.toNat_ofNat, BitVec.toNat_ofNat, BitVec.toNat_ofNat, Nat.mod_eq_of_lt ha, Nat.mod_eq_of_lt hb, Nat.mod_eq_of_lt (Nat.and_lt_two_pow _ hb)]
theorem wb_or {a b : Nat} (ha : a < 2 ^ 64) (hb : b < 2 ^ 64) : lN a ||| lN b = lN (a ||| b) := by
  apply wb_inj
  rw [Int64.toBitVec_or, wb_tb, wb_tb, wb_tb]
  apply BitVec.eq_of_toNat_eq
  rw [BitVec.toNat_or, BitVec.toNat_ofNat, BitVec.toNat_ofNat, BitVec.toNat_ofNat, Nat.mod_eq_of_lt ha, Nat.mod_eq_of_lt hb, Nat.mod_eq_of_lt (Nat.or_lt_two_pow ha hb)]
theorem wb_mask {n k : Nat} (hn : n < 2 ^ 64) (hk : k < 64) : lN n &&& lN (2 ^ k - 1) = lN (n % 2 ^ k) := by
  rw [wb_and hn (by have := wb_lt2 hk; omega), Nat.and_two_pow_sub_one_eq_mod]
theorem wb_a1 {n : Nat} (hn : n < 2 ^ 64) : lN n &&& 1 = lN (n % 2) := wb_mask (k := 1) hn (by decide)
theorem wb_bit {n k : Nat} (hn : n < 2 ^ 64) (hk : k < 64) : ((lN n).toUInt64 >>> ((nI k).toInt64.toUInt64 &&& Int64.toUInt64 63)).toInt64 &&& 1 = lN (n / 2 ^ k % 2) := by
  rw [wb_shr hn hk, wb_a1 (Nat.lt_of_le_of_lt (Nat.div_le_self _ _) hn)]
/-! how many headers a set has -/
theorem tb_lN {n h : Nat} (hh : h < 64) : tb (lN n) h = n.testBit h := by
  unfold tb
  rw [wb_tb, BitVec.getLsbD_ofNat]
  simp [hh]
theorem In32.nat {s : Int64} (hs : In32 s) : ∃ n, n < 2 ^ 32 ∧ s = lN n := by
  obtain ⟨n, h1, h2⟩ := wb_of s
  refine ⟨n, ?_, h2⟩
  refine Nat.lt_pow_two_of_testBit n (fun i hi => ?_)
  rcases Nat.lt_or_ge i 64 with h3 | h3
  · rw [← tb_lN h3, ← h2]; exact hs i hi
  · exact Nat.testBit_lt_two_pow (Nat.lt_of_lt_of_le h1 (Nat.pow_le_pow_right (by decide) h3))
theorem and8 {a c : Nat} (x y : Nat) (ha : a < 256) (hc : c < 256) : (a + 256 * x) &&& (c + 256 * y) = (a &&& c) + 256 * (x &&& y) := by
  apply Nat.eq_of_testBit_eq
  intro i
  have e1 : a + 256 * x = 2 ^ 8 * x + a := by omega
  have e2 : c + 256 * y = 2 ^ 8 * y + c := by omega
  have e3 : (a &&& c) + 256 * (x &&& y) = 2 ^ 8 * (x &&& y) + (a &&& c) := by omega
  rw [Nat.testBit_and, e1, e2, e3, Nat.testBit_two_pow_mul_add _ ha, Nat.testBit_two_pow_mul_add _ hc, Nat.testBit_two_pow_mul_add _ (show a &&& c < 2 ^ 8 from Nat.lt_of_le_of_lt Nat.and_le_left ha)]
  by_cases h : i < 8
  · simp [h]
  · simp [h]
theorem d1 : ∀ b, b < 256 → ∀ e, e < 2 → (b / 2 + 128 * e) &&& 85 = b / 2 &&& 85 := by decide +kernel
theorem d2 : ∀ b, b < 256 → ∀ e, e < 4 → (b / 4 + 64 * e) &&& 51 = b / 4 &&& 51 := by decide +kernel
theorem s1 {b : Nat} (n M : Nat) (hb : b < 256) : ((b + 256 * n) / 2) &&& (85 + 256 * M) = (b / 2 &&& 85) + 256 * (n / 2 &&& M) := by
  have e : (b + 256 * n) / 2 = (b / 2 + 128 * (n % 2)) + 256 * (n / 2) := by omega
  rw [e, and8 _ _ (by omega) (by decide), d1 b hb _ (by omega)]
theorem s2 {b : Nat} (n M : Nat) (hb : b < 256) : ((b + 256 * n) / 4) &&& (51 + 256 * M) = (b / 4 &&& 51) + 256 * (n / 4 &&& M) := by
  have e : (b + 256 * n) / 4 = (b / 4 + 64 * (n % 4)) + 256 * (n / 4) := by omega
  rw [e, and8 _ _ (by omega) (by decide), d2 b hb _ (by omega)]
def f1 (b : Nat) : Nat := b - (b / 2 &&& 85)
def f2 (b : Nat) : Nat := (b &&& 51) + (b / 4 &&& 51)
def f3 (b : Nat) : Nat := (b + b / 16) &&& 15
theorem f1_lt : ∀ b, b < 256 → (b / 2 &&& 85) ≤ b ∧ f1 b < 256 := by decide +kernel
theorem f2_lt : ∀ b, b < 256 → f2 (f1 b) < 256 ∧ f2 (f1 b) % 16 ≤ 4 ∧ f2 (f1 b) / 16 ≤ 4 := by decide +kernel
theorem f3_ct : ∀ b, b < 256 → f3 (f2 (f1 b)) = fb_ct (fun i => b.testBit i) 8 := by decide +kernel
theorem d3 : ∀ b, b < 256 → b % 16 ≤ 4 → b / 16 ≤ 4 → ∀ e, e ≤ 4 → b + b / 16 + 16 * e < 256 ∧ (b + b / 16 + 16 * e) &&& 15 = f3 b := by decide +kernel
theorem s3 {b : Nat} (n M : Nat) (hb : b < 256) (h1 : b % 16 ≤ 4) (h2 : b / 16 ≤ 4) (hn : n % 16 ≤ 4) : ((b + 256 * n) + (b + 256 * n) / 16) &&& (15 + 256 * M) = f3 b + 256 * ((n + n / 16) &&& M) := by
  have e : (b + 256 * n) + (b + 256 * n) / 16 = (b + b / 16 + 16 * (n % 16)) + 256 * (n + n / 16) := by omega
  obtain ⟨d, d'⟩ := d3 b hb h1 h2 (n % 16) hn
  rw [e, and8 _ _ d (by decide), d']
theorem bc_nat {b0 b1 b2 b3 : Nat} (h0 : b0 < 256) (h1 : b1 < 256) (h2 : b2 < 256) (h3 : b3 < 256) : ∃ y1 y2 y3 : Nat, (b0 + 256 * (b1 + 256 * (b2 + 256 * (b3 + 256 * 0)))) - ((b0 + 256 * (b1 + 256 * (b2 + 256 * (b3 + 256 * 0)))) / 2 &&& 6148914691236517205) = y1 ∧ (b0 + 256 * (b1 + 256 * (b2 + 256 * (b3 + 256 * 0)))) / 2 &&& 6148914691236517205 ≤ (b0 + 256 * (b1 + 256 * (b2 + 256 * (b3 + 256 * 0)))) ∧ y1 < 2 ^ 32 ∧ (y1 &&& 3689348814741910323) + (y1 / 4 &&& 3689348814741910323) = y2 ∧ y2 < 2 ^ 32 ∧ (y2 + y2 / 16) &&& 1085102592571150095 = y3 ∧ y3 = f3 (f2 (f1 b0)) + 256 * (f3 (f2 (f1 b1)) + 256 * (f3 (f2 (f1 b2)) + 256 * (f3 (f2 (f1 b3)) + 256 * 0))) := by
  have g0 := f1_lt b0 h0; have g1 := f1_lt b1 h1; have g2 := f1_lt b2 h2; have g3 := f1_lt b3 h3
  have k0 := f2_lt b0 h0; have k1 := f2_lt b1 h1; have k2 := f2_lt b2 h2; have k3 := f2_lt b3 h3
  have e1 : (b0 + 256 * (b1 + 256 * (b2 + 256 * (b3 + 256 * 0)))) / 2 &&& 6148914691236517205 = (b0 / 2 &&& 85) + 256 * ((b1 / 2 &&& 85) + 256 * ((b2 / 2 &&& 85) + 256 * ((b3 / 2 &&& 85) + 256 * 0))) := by
    rw [show (6148914691236517205 : Nat) = 85 + 256 * (85 + 256 * (85 + 256 * (85 + 256 * 1431655765))) from rfl, s1 _ _ h0, s1 _ _ h1, s1 _ _ h2, s1 _ _ h3]
    rfl
  refine ⟨f1 b0 + 256 * (f1 b1 + 256 * (f1 b2 + 256 * (f1 b3 + 256 * 0))), f2 (f1 b0) + 256 * (f2 (f1 b1) + 256 * (f2 (f1 b2) + 256 * (f2 (f1 b3) + 256 * 0))), _, ?_, ?_, ?_, ?_, ?_, rfl, ?_⟩
  · rw [e1]; unfold f1; omega
  · rw [e1]; omega
  · omega
  · rw [show (3689348814741910323 : Nat) = 51 + 256 * (51 + 256 * (51 + 256 * (51 + 256 * 858993459))) from rfl, s2 _ _ g0.2, s2 _ _ g1.2, s2 _ _ g2.2, s2 _ _ g3.2, and8 _ _ g0.2 (by decide), and8 _ _ g1.2 (by decide), and8 _ _ g2.2 (by decide), and8 _ _ g3.2 (by decide)]
    unfold f2
    simp only [Nat.zero_div, Nat.zero_and]
    omega
  · omega
  · rw [show (1085102592571150095 : Nat) = 15 + 256 * (15 + 256 * (15 + 256 * (15 + 256 * 252645135))) from rfl, s3 _ _ k0.1 k0.2.1 k0.2.2 (by omega), s3 _ _ k1.1 k1.2.1 k1.2.2 (by omega), s3 _ _ k2.1 k2.2.1 k2.2.2 (by omega), s3 _ _ k3.1 k3.2.1 k3.2.2 (by omega)]
    simp only [Nat.zero_div, Nat.add_zero, Nat.zero_and]
theorem ct_bytes {b0 b1 b2 b3 : Nat} (h0 : b0 < 256) (h1 : b1 < 256) (h2 : b2 < 256) (h3 : b3 < 256) : fb_ct (fun i => (b0 + 256 * (b1 + 256 * (b2 + 256 * (b3 + 256 * 0)))).testBit i) 32 = fb_ct (fun i => b0.testBit i) 8 + (fb_ct (fun i => b1.testBit i) 8 + (fb_ct (fun i => b2.testBit i) 8 + fb_ct (fun i => b3.testBit i) 8)) := by
  have st : ∀ (b n k : Nat), b < 256 → fb_ct (fun i => (b + 256 * n).testBit i) (8 + k) = fb_ct (fun i => b.testBit i) 8 + fb_ct (fun i => n.testBit i) k := by
    intro b n k hb
    rw [fb_ct_split]
    have e : b + 256 * n = 2 ^ 8 * n + b := by omega
    congr 1
    · refine fb_ct_cong (fun i hi => ?_)
      rw [e, Nat.testBit_two_pow_mul_add _ hb, if_pos hi]
    · refine fb_ct_cong (fun i hi => ?_)
      rw [e, Nat.testBit_two_pow_mul_add _ hb, if_neg (by omega)]
      congr 1; omega
  rw [show (32 : Nat) = 8 + (8 + (8 + (8 + 0))) from rfl, st _ _ _ h0, st _ _ _ h1, st _ _ _ h2, st _ _ _ h3]
  rfl
theorem jur {a k : Nat} (ha : a < 2 ^ 64) (hk : k < 64) : jlur (lN a) (nI k) = lN (a / 2 ^ k) := wb_shr ha hk
theorem x_bitCount {s : Int64} (u : UH) (hs : In32 s) : fJ13_bitCount_95d88 s u = some (nI (fb_ct (tb s) 32)) := by
  obtain ⟨n, hn, rfl⟩ := hs.nat
  have hct : fb_ct (tb (lN n)) 32 = fb_ct (fun i => n.testBit i) 32 := fb_ct_cong (fun i hi => tb_lN (by omega))
  rw [hct]
  obtain ⟨b0, b1, b2, b3, h0, h1, h2, h3, hb⟩ : ∃ b0 b1 b2 b3 : Nat, b0 < 256 ∧ b1 < 256 ∧ b2 < 256 ∧ b3 < 256 ∧ n = b0 + 256 * (b1 + 256 * (b2 + 256 * (b3 + 256 * 0))) := ⟨n % 256, n / 256 % 256, n / 65536 % 256, n / 16777216, by omega, by omega, by omega, by omega, by omega⟩
  obtain ⟨y1, y2, y3, e1, l1, l2, e2, l3, e3, e4⟩ := bc_nat h0 h1 h2 h3
  rw [← hb] at e1 l1
  have p0 := fb_ct_le (fun i => b0.testBit i) 8
  have p1 := fb_ct_le (fun i => b1.testBit i) 8
  have p2 := fb_ct_le (fun i => b2.testBit i) 8
  have p3 := fb_ct_le (fun i => b3.testBit i) 8
  have hsum := ct_bytes h0 h1 h2 h3
  rw [← hb] at hsum
  rw [f3_ct b0 h0, f3_ct b1 h1, f3_ct b2 h2, f3_ct b3 h3] at e4
  generalize fb_ct (fun i => b0.testBit i) 8 = c0 at *
  generalize fb_ct (fun i => b1.testBit i) 8 = c1 at *
  generalize fb_ct (fun i => b2.testBit i) 8 = c2 at *
  generalize fb_ct (fun i => b3.testBit i) 8 = c3 at *
  rw [hsum]
  unfold fJ13_bitCount_95d88 lt
  dsimp only
  have n64 : n < 2 ^ 64 := by omega
  rw [show (1 : Int32) = nI 1 from rfl, show (2 : Int32) = nI 2 from rfl, show (4 : Int32) = nI 4 from rfl, show (8 : Int32) = nI 8 from rfl, show (16 : Int32) = nI 16 from rfl, show (32 : Int32) = nI 32 from rfl, show (6148914691236517205 : Int64) = lN 6148914691236517205 from rfl, show (3689348814741910323 : Int64) = lN 3689348814741910323 from rfl, show (1085102592571150095 : Int64) = lN 1085102592571150095 from rfl]
  rw [jur n64 (by decide), wb_and (by omega) (by decide), lN_sub (by rw [Nat.pow_one]; exact l1), Nat.pow_one, e1]
  rw [jur (by omega) (by decide), wb_and (by omega) (by decide), wb_and (by omega) (by decide), lN_add, show (2 : Nat) ^ 2 = 4 from rfl, e2]
  rw [jur (by omega) (by decide), lN_add, wb_and (by omega) (by decide), show (2 : Nat) ^ 4 = 16 from rfl, e3]
  have l4 : y3 < 2 ^ 32 := by omega
  rw [jur (by omega) (by decide), lN_add, show (2 : Nat) ^ 8 = 256 from rfl]
  obtain ⟨y4, e5⟩ : ∃ y, y3 + y3 / 256 = y := ⟨_, rfl⟩
  rw [e5, jur (by omega) (by decide), lN_add, show (2 : Nat) ^ 16 = 65536 from rfl]
  obtain ⟨y5, e6⟩ : ∃ y, y4 + y4 / 65536 = y := ⟨_, rfl⟩
  rw [e6, jur (by omega) (by decide), lN_add, show (2 : Nat) ^ 32 = 4294967296 from rfl]
  obtain ⟨y6, e7⟩ : ∃ y, y5 + y5 / 4294967296 = y := ⟨_, rfl⟩
  rw [e7, lN_i, pk_andN (by omega) 7 rfl]
  congr 2
  have q1 : y3 / 256 = c1 + 256 * (c2 + 256 * c3) := by omega
  have q2 : y4 = (c0 + c1) + 256 * ((c1 + c2) + 256 * ((c2 + c3) + 256 * c3)) := by omega
  have q3 : y4 / 65536 = (c2 + c3) + 256 * c3 := by omega
  have q4 : y5 = (c0 + (c1 + (c2 + c3))) + 256 * ((c1 + c2 + c3) + 256 * ((c2 + c3) + 256 * c3)) := by omega
  have q5 : y5 / 4294967296 = 0 := by omega
  have q6 : y6 = (c0 + (c1 + (c2 + c3))) + 256 * ((c1 + c2 + c3) + 256 * ((c2 + c3) + 256 * c3)) := by omega
  clear e1 e2 e3 e5 e6 e7 hb l1
  omega
/-! the reference's way of counting -/
theorem low_bit : ∀ n : Nat, n ≠ 0 → ∃ l q, n = 2 ^ l * (2 * q + 1) := by
  intro n
  induction n using Nat.strongRecOn with
  | _ n ih =>
    intro hn
    by_cases h : n % 2 = 1
    · exact ⟨0, n / 2, by omega⟩
    · obtain ⟨l, q, e⟩ := ih (n / 2) (by omega) (by omega)
      exact ⟨l + 1, q, by rw [Nat.pow_succ, Nat.mul_assoc, Nat.mul_comm 2, ← Nat.mul_assoc, ← e]; omega⟩
theorem clear_low {n l q : Nat} (e : n = 2 ^ l * (2 * q + 1)) (i : Nat) : (n &&& (n - 1)).testBit i = (n.testBit i && decide (i ≠ l)) ∧ n.testBit l = true := by
  have hp := Nat.two_pow_pos l
  have e1 : n = 2 ^ l * (2 * q + 1) + 0 := e
  have e2 : n - 1 = 2 ^ l * (2 * q) + (2 ^ l - 1) := by
    rw [e, Nat.mul_add, Nat.mul_one]; omega
  have b1 : ∀ i, n.testBit i = if i < l then false else (2 * q + 1).testBit (i - l) := by
    intro i; rw [e1, Nat.testBit_two_pow_mul_add _ hp]; simp
  have b2 : ∀ i, (n - 1).testBit i = if i < l then true else (2 * q).testBit (i - l) := by
    intro i; rw [e2, Nat.testBit_two_pow_mul_add _ (by omega)]
    by_cases h : i < l
    · rw [if_pos h, if_pos h, Nat.testBit_two_pow_sub_one]; simp [h]
    · rw [if_neg h, if_neg h]
  refine ⟨?_, by rw [b1 l, if_neg (by omega), Nat.sub_self]; simp⟩
  rw [Nat.testBit_and, b1, b2]
  by_cases h : i < l
  · simp [h]
  · rw [if_neg h, if_neg h]
    by_cases h2 : i = l
    · subst h2; simp
    · obtain ⟨k, hk⟩ : ∃ k, i - l = k + 1 := ⟨i - l - 1, by omega⟩
      rw [hk, Nat.testBit_succ, Nat.testBit_succ, show (2 * q + 1) / 2 = q by omega, show 2 * q / 2 = q by omega]
      simp [h2]
theorem m_size {s : Int64} (u : UH) (hs : In32 s) : fX12_size s u = some (nI (fb_ct (tb s) 32)) := by
  refine of_wp ?_
  unfold fX12_size
  refine wp_obw (Q := fun z => z = nI (fb_ct (tb s) 32)) ?_ (fun z hz => wp_some hz)
  have key := it2_rule (b := fX12_size_B4 u) (fun c z => In32 z ∧ ∃ k, c = nI k ∧ k + fb_ct (tb z) 32 = fb_ct (tb s) 32) (fun _ z => fb_ct (tb z) 32) (fun z => z = nI (fb_ct (tb s) 32)) ?_
  · exact key FUEL 0 s ⟨hs, 0, rfl, by omega⟩ (Nat.lt_of_le_of_lt (fb_ct_le _ _) (by decide))
  intro k c z ⟨hz, n, hc, hn⟩ hk
  unfold fX12_size_B4
  refine wp_if (fun h => wp_some ?_) (fun h => ?_)
  · have : fb_ct (tb z) 32 = 0 := fb_ct_zero.mpr (fun i hi => by rw [h]; exact tb_0 i)
    rw [hc]; congr 1; omega
  · obtain ⟨w, hw, rfl⟩ := hz.nat
    have hw0 : w ≠ 0 := fun e => h (by rw [e]; rfl)
    obtain ⟨l, q, e⟩ := low_bit w hw0
    have hl : l < 32 := by
      have h1 := (clear_low e l).2
      rcases Nat.lt_or_ge l 32 with h2 | h2
      · exact h2
      · rw [Nat.testBit_lt_two_pow (Nat.lt_of_lt_of_le hw (Nat.pow_le_pow_right (by decide) h2))] at h1; cases h1
    have e2 : lN w &&& (lN w - 1) = lN (w &&& (w - 1)) := by
      rw [show (1 : Int64) = lN 1 from rfl, lN_sub (by omega), wb_and (by omega) (by omega)]
    rw [e2]
    have hbit : ∀ i, i < 64 → tb (lN (w &&& (w - 1))) i = (tb (lN w) i && decide (i ≠ l)) := fun i hi => by rw [tb_lN hi, tb_lN hi, (clear_low e i).1]
    have hct : fb_ct (tb (lN (w &&& (w - 1)))) 32 + 1 = fb_ct (tb (lN w)) 32 := by
      have h1 := fb_ct_upd (tb (lN w)) false (i := l) (n := 32) hl
      have h2 : fb_ct (tb (lN (w &&& (w - 1)))) 32 = fb_ct (fun k => if k = l then false else tb (lN w) k) 32 := fb_ct_cong (fun i hi => by
        rw [hbit i (by omega)]
        by_cases h3 : i = l
        · simp [h3]
        · simp [h3])
      have h3 : tb (lN w) l = true := by rw [tb_lN (by omega)]; exact (clear_low e l).2
      rw [h3] at h1
      simp only [if_true, Bool.false_eq_true, if_false] at h1
      omega
    refine hk _ _ ⟨fun i hi => ?_, n + 1, by rw [hc]; exact nI_1 n, by omega⟩ (by omega)
    rcases Nat.lt_or_ge i 64 with h3 | h3
    · rw [hbit i h3, hz i hi]; simp
    · exact tb_big h3
