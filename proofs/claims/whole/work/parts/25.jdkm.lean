/-! what Long.signum and Long.bitCount compute -/
def uN (x : Int64) : Nat := x.toBitVec.toNat
theorem uN_lt (x : Int64) : uN x < 18446744073709551616 := x.toBitVec.isLt
theorem uN_lI {a : Int} (ha : bL a) : (uN (lI a) : Int) = if a < 0 then a + 18446744073709551616 else a := by
  have h1 : (lI a).toBitVec.toInt = a := lI_toInt ha
  have h2 := BitVec.toInt_eq_toNat_cond (lI a).toBitVec
  unfold uN
  have h3 := (lI a).toBitVec.isLt
  have h4 := ha.1
  have h5 := ha.2
  rw [h1] at h2
  split at h2 <;> split <;> omega
theorem uN_inj {x y : Int64} (h : uN x = uN y) : x = y := Int64.toBitVec_inj.mp (BitVec.eq_of_toNat_eq h)
theorem uN_and (x y : Int64) : uN (x &&& y) = uN x &&& uN y := by unfold uN; rw [Int64.toBitVec_and, BitVec.toNat_and]
theorem uN_or (x y : Int64) : uN (x ||| y) = uN x ||| uN y := by unfold uN; rw [Int64.toBitVec_or, BitVec.toNat_or]
theorem uN_add {x y : Int64} (h : uN x + uN y < 18446744073709551616) : uN (x + y) = uN x + uN y := by
  unfold uN at *
  rw [Int64.toBitVec_add, BitVec.toNat_add]
  exact Nat.mod_eq_of_lt h
theorem uN_sub {x y : Int64} (h : uN y ≤ uN x) : uN (x - y) = uN x - uN y := by
  have h1 := uN_lt x
  unfold uN at *
  rw [Int64.toBitVec_sub, BitVec.toNat_sub]
  omega
theorem uN_ushr (x : Int64) (n : Nat) (hn : n < 64) : uN (x.toUInt64 >>> ((iI (n : Int)).toInt64.toUInt64 &&& Int64.toUInt64 63)).toInt64 = uN x / 2 ^ n := by
  have e1 : ∀ n, n < 64 → ((((iI ((n : Nat) : Int)).toInt64.toUInt64 &&& Int64.toUInt64 63).toBitVec % 64).toNat) = n := by decide +kernel
  unfold uN
  show (x.toUInt64 >>> _).toBitVec.toNat = _
  rw [UInt64.toBitVec_shiftRight, BitVec.ushiftRight_eq', BitVec.toNat_ushiftRight, e1 n hn, Nat.shiftRight_eq_div_pow]
  rfl
theorem signum_ok {a : Int} (ha : bL a) (h0 : -9223372036854775808 < a) : (lI a >>> ((iI 63).toInt64 &&& 63) ||| ((-(lI a)).toUInt64 >>> ((iI 63).toInt64.toUInt64 &&& Int64.toUInt64 63)).toInt64).toInt32 = iI (Int.sign a) := by
  have h1 : lI a >>> ((iI 63).toInt64 &&& 63) = lI (a / 2 ^ 63) := lI_shr ha 63 (by decide)
  have h2 := uN_ushr (-(lI a)) 63 (by decide)
  rw [lI_neg] at h2 ⊢
  have hn : bL (-a) := ⟨by have := ha.2; omega, by omega⟩
  have h3 := uN_lI hn
  have p1 := ha.1
  have p2 := ha.2
  rw [h1]
  rcases Int.lt_trichotomy a 0 with q | q | q
  · have e1 : a / 2 ^ 63 = -1 := by omega
    have e2 : ((lI (-a)).toUInt64 >>> ((iI 63).toInt64.toUInt64 &&& Int64.toUInt64 63)).toInt64 = 0 := uN_inj (by
      rw [if_neg (by omega)] at h3
      have : uN (0 : Int64) = 0 := rfl
      rw [this]
      refine h2.trans ?_
      omega)
    rw [e1, e2, Int.sign_eq_neg_one_of_neg q]
    decide
  · subst q
    decide
  · have e1 : a / 2 ^ 63 = 0 := by omega
    have e2 : ((lI (-a)).toUInt64 >>> ((iI 63).toInt64.toUInt64 &&& Int64.toUInt64 63)).toInt64 = 1 := uN_inj (by
      rw [if_pos (by omega)] at h3
      have : uN (1 : Int64) = 1 := rfl
      rw [this]
      refine h2.trans ?_
      omega)
    rw [e1, e2, Int.sign_eq_one_of_pos q]
    decide
theorem pc_m85 : pc_m 85 8 = 6148914691236517205 := by decide
theorem pc_m51 : pc_m 51 8 = 3689348814741910323 := by decide
theorem pc_m15 : pc_m 15 8 = 1085102592571150095 := by decide
theorem dv_256 (t X : Nat) (h : t < 256) : (t + 256 * X) / 256 = X := by omega
theorem dv_65536 (t X : Nat) (h : t < 65536) : (t + 65536 * X) / 65536 = X := by omega
theorem dv_32 (t X : Nat) (h : t < 4294967296) : (t + 4294967296 * X) / 4294967296 = X := by omega
theorem md_128 (t X : Nat) (h : t < 128) : (t + 128 * X) % 128 = t := by omega
theorem pc_fin {t0 t1 t2 t3 t4 t5 t6 t7 s3 s4 s5 s6 : Nat} (u0 : t0 ≤ 8) (u1 : t1 ≤ 8) (u2 : t2 ≤ 8) (u3 : t3 ≤ 8) (u4 : t4 ≤ 8) (u5 : t5 ≤ 8) (u6 : t6 ≤ 8) (u7 : t7 ≤ 8)
    (h3 : s3 = t0 + 256 * (t1 + 256 * (t2 + 256 * (t3 + 256 * (t4 + 256 * (t5 + 256 * (t6 + 256 * t7))))))) (h4 : s4 = s3 + s3 / 256) (h5 : s5 = s4 + s4 / 65536) (h6 : s6 = s5 + s5 / 4294967296) : s6 % 128 = t0 + t1 + t2 + t3 + t4 + t5 + t6 + t7 ∧ s6 < 9223372036854775808 := by
  have k1 : s3 / 256 = t1 + 256 * (t2 + 256 * (t3 + 256 * (t4 + 256 * (t5 + 256 * (t6 + 256 * t7))))) := by
    rw [h3]; exact dv_256 _ _ (by clear h3 h4 h5 h6; omega)
  rw [k1, h3] at h4
  clear k1 h3
  have m4 : s4 = ((t0 + t1) + 256 * (t1 + t2)) + 65536 * ((t2 + t3) + 256 * ((t3 + t4) + 256 * ((t4 + t5) + 256 * ((t5 + t6) + 256 * ((t6 + t7) + 256 * t7))))) := by
    clear u0 u1 u2 u3 u4 u5 u6 u7 h5 h6; omega
  clear h4
  have k2 : s4 / 65536 = (t2 + t3) + 256 * ((t3 + t4) + 256 * ((t4 + t5) + 256 * ((t5 + t6) + 256 * ((t6 + t7) + 256 * t7)))) := by
    rw [m4]; exact dv_65536 _ _ (by clear m4 h5 h6; omega)
  rw [k2, m4] at h5
  clear k2 m4
  have m5 : s5 = ((t0 + t1 + t2 + t3) + 256 * ((t1 + t2 + t3 + t4) + 256 * ((t2 + t3 + t4 + t5) + 256 * (t3 + t4 + t5 + t6)))) + 4294967296 * ((t4 + t5 + t6 + t7) + 256 * ((t5 + t6 + t7) + 256 * ((t6 + t7) + 256 * t7))) := by
    clear u0 u1 u2 u3 u4 u5 u6 u7 h6; omega
  clear h5
  have k3 : s5 / 4294967296 = (t4 + t5 + t6 + t7) + 256 * ((t5 + t6 + t7) + 256 * ((t6 + t7) + 256 * t7)) := by
    rw [m5]; exact dv_32 _ _ (by clear m5 h6; omega)
  rw [k3, m5] at h6
  clear k3 m5
  have m6 : s6 = (t0 + t1 + t2 + t3 + t4 + t5 + t6 + t7) + 128 * (2 * ((t1 + t2 + t3 + t4) + (t5 + t6 + t7) + 256 * ((t2 + t3 + t4 + t5) + (t6 + t7) + 256 * ((t3 + t4 + t5 + t6) + t7)) + 16777216 * ((t4 + t5 + t6 + t7) + 256 * ((t5 + t6 + t7) + 256 * ((t6 + t7) + 256 * t7))))) := by
    clear u0 u1 u2 u3 u4 u5 u6 u7; omega
  clear h6
  refine ⟨?_, ?_⟩
  · rw [m6]; exact md_128 _ _ (by clear m6; omega)
  · omega
theorem l_of_uN {x : Int64} (h : uN x < 9223372036854775808) : x.toInt32 = nI (uN x) := by
  have z0 : x = lI (uN x : Int) := uN_inj (by
    have h1 := uN_lI (a := (uN x : Int)) ⟨by omega, by omega⟩
    rw [if_neg (by omega)] at h1
    omega)
  rw [iI_nI, ← lI_l2i]
  exact congrArg Int64.toInt32 z0
theorem md_32_7 (n : Nat) : n % 2 ^ 32 % 2 ^ 7 = n % 128 := by omega
theorem nI_tn (n : Nat) : (nI n).toBitVec.toNat = n % 2 ^ 32 := rfl
/-- Long.bitCount, row by row -/
theorem bitCount_ok {x x1 x2 x3 x4 x5 x6 : Int64}
    (e1 : x1 = x - ((x.toUInt64 >>> ((iI 1).toInt64.toUInt64 &&& Int64.toUInt64 63)).toInt64 &&& lI 6148914691236517205))
    (e2 : x2 = (x1 &&& lI 3689348814741910323) + ((x1.toUInt64 >>> ((iI 2).toInt64.toUInt64 &&& Int64.toUInt64 63)).toInt64 &&& lI 3689348814741910323))
    (e3 : x3 = (x2 + (x2.toUInt64 >>> ((iI 4).toInt64.toUInt64 &&& Int64.toUInt64 63)).toInt64) &&& lI 1085102592571150095)
    (e4 : x4 = x3 + (x3.toUInt64 >>> ((iI 8).toInt64.toUInt64 &&& Int64.toUInt64 63)).toInt64)
    (e5 : x5 = x4 + (x4.toUInt64 >>> ((iI 16).toInt64.toUInt64 &&& Int64.toUInt64 63)).toInt64)
    (e6 : x6 = x5 + (x5.toUInt64 >>> ((iI 32).toInt64.toUInt64 &&& Int64.toUInt64 63)).toInt64) :
    x6.toInt32 &&& iI 127 = iI (pcN 64 (uN x)) := by
  have hlt := uN_lt x
  have c1 : uN (lI 6148914691236517205) = pc_m 85 8 := by decide
  have c2 : uN (lI 3689348814741910323) = pc_m 51 8 := by decide
  have c3 : uN (lI 1085102592571150095) = pc_m 15 8 := by decide
  have s1 := uN_ushr x 1 (by decide)
  have s2 := uN_ushr x1 2 (by decide)
  have s3 := uN_ushr x2 4 (by decide)
  have s4 := uN_ushr x3 8 (by decide)
  have s5 := uN_ushr x4 16 (by decide)
  have s6 := uN_ushr x5 32 (by decide)
  have f1 : uN x1 = pc_1 (uN x) (pc_m 85 8) := by
    rw [e1, uN_sub, uN_and, c1]
    · exact congrArg (fun z => uN x - (z &&& pc_m 85 8)) s1
    · rw [uN_and, c1]
      exact Nat.le_trans (Nat.le_of_eq (congrArg (fun z => z &&& pc_m 85 8) s1)) (pc_le _ _)
  have b1 : uN x1 < 18446744073709551616 := uN_lt _
  have hm51 : pc_m 51 8 = 3689348814741910323 := pc_m51
  have l2a : (uN x1 &&& pc_m 51 8) ≤ pc_m 51 8 := Nat.and_le_right
  have l2b : (uN x1 / 4 &&& pc_m 51 8) ≤ pc_m 51 8 := Nat.and_le_right
  have s2' : uN ((x1.toUInt64 >>> ((iI 2).toInt64.toUInt64 &&& Int64.toUInt64 63)).toInt64 &&& lI 3689348814741910323) = (uN x1 / 4 &&& pc_m 51 8) := by
    rw [uN_and, c2]
    exact congrArg (fun z => z &&& pc_m 51 8) s2
  have f2 : uN x2 = pc_2 (uN x1) (pc_m 51 8) := by
    rw [e2, uN_add, s2', uN_and, c2]
    · rfl
    · rw [s2', uN_and, c2]; omega
  obtain ⟨a1, a2⟩ := pc_all 8 (uN x) (by have : (256 : Nat) ^ 8 = 18446744073709551616 := by decide
                                         omega)
  rw [← f1, ← f2] at a2
  have l2 : uN x2 ≤ 2 * pc_m 51 8 := by rw [f2]; unfold pc_2; omega
  have s3' : uN (x2 + (x2.toUInt64 >>> ((iI 4).toInt64.toUInt64 &&& Int64.toUInt64 63)).toInt64) = uN x2 + uN x2 / 16 := by
    have s3'' : uN (x2.toUInt64 >>> ((iI 4).toInt64.toUInt64 &&& Int64.toUInt64 63)).toInt64 = uN x2 / 16 := s3
    rw [uN_add, s3'']
    rw [s3'']; omega
  have f3 : uN x3 = pc_by 8 (uN x) := by
    rw [e3, uN_and, s3', c3, ← a2]; rfl
  obtain ⟨t0, t1, t2, t3, t4, t5, t6, t7, u0, u1, u2, u3, u4, u5, u6, u7, g1, g2⟩ := pc_8 (uN x) (by omega)
  rw [g1] at f3
  have s4' : uN (x3.toUInt64 >>> ((iI 8).toInt64.toUInt64 &&& Int64.toUInt64 63)).toInt64 = uN x3 / 256 := s4
  have f4 : uN x4 = uN x3 + uN x3 / 256 := by
    rw [e4, uN_add, s4']; rw [s4']; omega
  have s5' : uN (x4.toUInt64 >>> ((iI 16).toInt64.toUInt64 &&& Int64.toUInt64 63)).toInt64 = uN x4 / 65536 := s5
  have f5 : uN x5 = uN x4 + uN x4 / 65536 := by
    rw [e5, uN_add, s5']; rw [s5']; omega
  have s6' : uN (x5.toUInt64 >>> ((iI 32).toInt64.toUInt64 &&& Int64.toUInt64 63)).toInt64 = uN x5 / 4294967296 := s6
  have f6 : uN x6 = uN x5 + uN x5 / 4294967296 := by
    rw [e6, uN_add, s6']; rw [s6']; omega
  obtain ⟨f7, f8⟩ := pc_fin u0 u1 u2 u3 u4 u5 u6 u7 f3 f4 f5 f6
  have z1 := l_of_uN f8
  have z2 := pk_and (nI (uN x6)) (m := iI 127) 7 (by decide)
  rw [nI_tn, md_32_7] at z2
  rw [z1, z2, ← iI_nI, g2, ← f7]
