/-! quotients -/
theorem tdiv_bd {a b : Int} (h : 0 < b) : -(a.natAbs : Int) ≤ a.tdiv b ∧ a.tdiv b ≤ (a.natAbs : Int) := by
  have h1 : (a.tdiv b).natAbs ≤ a.natAbs := by
    rw [Int.natAbs_tdiv]
    exact Nat.div_le_self _ _
  omega
theorem lI_tdiv {a b : Int} (ha : bL a) (hb : bL b) (h : 0 < b) : lI a / lI b = lI (a.tdiv b) := by
  have h1 := tdiv_bd (a := a) h
  have h0 : a.tdiv b ≤ 9223372036854775807 := by
    by_cases hn : 0 ≤ a
    · have := ha.2; omega
    · have h2 := Int.tdiv_nonneg (show 0 ≤ -a by omega) (show 0 ≤ b by omega)
      rw [Int.neg_tdiv] at h2
      omega
  have hq : bL (a.tdiv b) := ⟨by have := ha.1; have := ha.2; omega, h0⟩
  apply Int64.toInt_inj.mp
  rw [Int64.toInt_div, lI_toInt ha, lI_toInt hb, lI_toInt hq]
  exact Int.bmod_eq_of_le (by have := hq.1; omega) (by have := hq.2; omega)
theorem iI_tdiv {a b : Int} (ha : bI a) (hb : bI b) (h : 0 < b) : iI a / iI b = iI (a.tdiv b) := by
  have h1 := tdiv_bd (a := a) h
  have h0 : a.tdiv b ≤ 2147483647 := by
    by_cases hn : 0 ≤ a
    · have := ha.2; omega
    · have h2 := Int.tdiv_nonneg (show 0 ≤ -a by omega) (show 0 ≤ b by omega)
      rw [Int.neg_tdiv] at h2
      omega
  have hq : bI (a.tdiv b) := ⟨by have := ha.1; have := ha.2; omega, h0⟩
  apply Int32.toInt_inj.mp
  rw [Int32.toInt_div, iI_toInt ha, iI_toInt hb, iI_toInt hq]
  exact Int.bmod_eq_of_le (by have := hq.1; omega) (by have := hq.2; omega)
theorem iI_ne0 {b : Int} (hb : bI b) (h : 0 < b) : ¬ iI b = 0 := by
  rw [← iI_0, iI_eq hb bI_0]; omega
theorem lI_ne0 {b : Int} (hb : bL b) (h : 0 < b) : ¬ lI b = 0 := by
  rw [← lI_0, lI_eq hb bL_0]; omega
theorem ediv_uniq {a b q : Int} (h : 0 < b) (h1 : b * q ≤ a) (h2 : a < b * q + b) : a / b = q := by
  have e1 : q ≤ a / b := (Int.le_ediv_iff_mul_le h).mpr (by rw [Int.mul_comm]; exact h1)
  have e2 : a / b < q + 1 := (Int.ediv_lt_iff_lt_mul h).mpr (by rw [Int.add_mul, Int.one_mul, Int.mul_comm q b]; exact h2)
  omega
theorem ediv_sp {a b : Int} (h : 0 < b) : b * (a / b) ≤ a ∧ a < b * (a / b) + b := by
  have h1 := Int.mul_ediv_add_emod a b
  have h2 := Int.emod_nonneg a (show b ≠ 0 by omega)
  have h3 := Int.emod_lt_of_pos a h
  omega
/-- rounding down, by Java's quotient -/
theorem floor_t {a b : Int} (h : 0 < b) : a / b = if a < 0 ∧ ¬ a.tdiv b * b = a then a.tdiv b - 1 else a.tdiv b := by
  have h1 := Int.mul_tdiv_add_tmod a b
  have e0 : a.tdiv b * b = b * a.tdiv b := Int.mul_comm _ _
  by_cases hn : 0 ≤ a
  · have h2 := Int.tmod_nonneg b hn
    have h3 := Int.tmod_lt_of_pos a h
    rw [if_neg (by omega)]
    exact ediv_uniq h (by omega) (by omega)
  · have h2 : a.tmod b ≤ 0 := by
      have := Int.tmod_nonneg b (show 0 ≤ -a by omega)
      rw [Int.neg_tmod] at this
      omega
    have h3 : -b < a.tmod b := by
      have := Int.tmod_lt_of_pos (-a) h
      rw [Int.neg_tmod] at this
      omega
    by_cases hd : a.tdiv b * b = a
    · rw [if_neg (by omega)]
      exact ediv_uniq h (by omega) (by omega)
    · rw [if_pos ⟨by omega, hd⟩]
      have e1 : b * (a.tdiv b - 1) = b * a.tdiv b - b := by rw [Int.mul_sub, Int.mul_one]
      exact ediv_uniq h (by omega) (by omega)
section SrDiv
variable {p : Program} {l : Launch} {e : Env} {R : Room} {s : State} {m : MethodId} {args : Array Value} {below : List Frame} {meth : Method} {c : Code} {H : Heap} {locs : List Loc} {cells slots : Nat} {Q : State → Prop}
variable {cc : ByteArray} {pc : Nat} {ls : Array Slot} {rest : List Value}
theorem sr_ldivT (hx : p.tables.exec = Jvm.exec) (hb : c.code = cc) {a b : Int} (hd : decode cc pc = .ok (.ldiv, 1)) (ha : bL a) (hb2 : bL b) (h : 0 < b) (k : W p l e R s m args below meth c H locs cells slots Q (F0 m (pc + 1) ls (.long (lI (a.tdiv b)) :: rest))) : W p l e R s m args below meth c H locs cells slots Q (F0 m pc ls (.long (lI b) :: .long (lI a) :: rest)) := lv_ldiv hx hb hd (lI_ne0 hb2 h) (by rw [lI_tdiv ha hb2 h]; exact k)
theorem sr_idivT (hx : p.tables.exec = Jvm.exec) (hb : c.code = cc) {a b : Int} (hd : decode cc pc = .ok (.idiv, 1)) (ha : bI a) (hb2 : bI b) (h : 0 < b) (k : W p l e R s m args below meth c H locs cells slots Q (F0 m (pc + 1) ls (.int (iI (a.tdiv b)) :: rest))) : W p l e R s m args below meth c H locs cells slots Q (F0 m pc ls (.int (iI b) :: .int (iI a) :: rest)) := lv_idiv hx hb hd (iI_ne0 hb2 h) (by rw [iI_tdiv ha hb2 h]; exact k)
theorem sr_lremT (hx : p.tables.exec = Jvm.exec) (hb : c.code = cc) {a b : Int} (hd : decode cc pc = .ok (.lrem, 1)) (ha : bL a) (hb2 : bL b) (h : 0 < b) (k : W p l e R s m args below meth c H locs cells slots Q (F0 m (pc + 1) ls (.long (lI (a.tmod b)) :: rest))) : W p l e R s m args below meth c H locs cells slots Q (F0 m pc ls (.long (lI b) :: .long (lI a) :: rest)) := lv_lrem hx hb hd (lI_ne0 hb2 h) (by rw [lI_tdiv ha hb2 h, lI_mul, lI_sub, Int.mul_comm, ← Int.tmod_def]; exact k)
theorem sr_iremT (hx : p.tables.exec = Jvm.exec) (hb : c.code = cc) {a b : Int} (hd : decode cc pc = .ok (.irem, 1)) (ha : bI a) (hb2 : bI b) (h : 0 < b) (k : W p l e R s m args below meth c H locs cells slots Q (F0 m (pc + 1) ls (.int (iI (a.tmod b)) :: rest))) : W p l e R s m args below meth c H locs cells slots Q (F0 m pc ls (.int (iI b) :: .int (iI a) :: rest)) := lv_irem hx hb hd (iI_ne0 hb2 h) (by rw [iI_tdiv ha hb2 h, iI_mul, iI_sub, Int.mul_comm, ← Int.tmod_def]; exact k)
theorem sr_ldiv (hx : p.tables.exec = Jvm.exec) (hb : c.code = cc) {a b : Int} (hd : decode cc pc = .ok (.ldiv, 1)) (h0 : 0 ≤ a) (ha : bL a) (h : 0 < b) (hb2 : bL b) (k : W p l e R s m args below meth c H locs cells slots Q (F0 m (pc + 1) ls (.long (lI (a / b)) :: rest))) : W p l e R s m args below meth c H locs cells slots Q (F0 m pc ls (.long (lI b) :: .long (lI a) :: rest)) := sr_ldivT hx hb hd ha hb2 h (by rw [Int.tdiv_eq_ediv_of_nonneg h0]; exact k)
theorem sr_idiv (hx : p.tables.exec = Jvm.exec) (hb : c.code = cc) {a b : Int} (hd : decode cc pc = .ok (.idiv, 1)) (h0 : 0 ≤ a) (ha : bI a) (h : 0 < b) (hb2 : bI b) (k : W p l e R s m args below meth c H locs cells slots Q (F0 m (pc + 1) ls (.int (iI (a / b)) :: rest))) : W p l e R s m args below meth c H locs cells slots Q (F0 m pc ls (.int (iI b) :: .int (iI a) :: rest)) := sr_idivT hx hb hd ha hb2 h (by rw [Int.tdiv_eq_ediv_of_nonneg h0]; exact k)
theorem sr_irem (hx : p.tables.exec = Jvm.exec) (hb : c.code = cc) {a b : Int} (hd : decode cc pc = .ok (.irem, 1)) (h0 : 0 ≤ a) (ha : bI a) (h : 0 < b) (hb2 : bI b) (k : W p l e R s m args below meth c H locs cells slots Q (F0 m (pc + 1) ls (.int (iI (a % b)) :: rest))) : W p l e R s m args below meth c H locs cells slots Q (F0 m pc ls (.int (iI b) :: .int (iI a) :: rest)) := sr_iremT hx hb hd ha hb2 h (by rw [Int.tmod_eq_emod_of_nonneg h0]; exact k)
theorem sr_lrem (hx : p.tables.exec = Jvm.exec) (hb : c.code = cc) {a b : Int} (hd : decode cc pc = .ok (.lrem, 1)) (h0 : 0 ≤ a) (ha : bL a) (h : 0 < b) (hb2 : bL b) (k : W p l e R s m args below meth c H locs cells slots Q (F0 m (pc + 1) ls (.long (lI (a % b)) :: rest))) : W p l e R s m args below meth c H locs cells slots Q (F0 m pc ls (.long (lI b) :: .long (lI a) :: rest)) := sr_lremT hx hb hd ha hb2 h (by rw [Int.tmod_eq_emod_of_nonneg h0]; exact k)
end SrDiv
/-- the sign of x ^ y, y above 0 -/
theorem lI_xor {a b : Int} (ha : bL a) (hb : bL b) (h : 0 < b) : lI 0 ≤ (lI a ^^^ lI b) ↔ 0 ≤ a := by
  have e0 : lI 0 ≤ (lI a ^^^ lI b) ↔ (lI a ^^^ lI b).toBitVec.msb = false := by
    rw [Int64.le_iff_toInt_le, show (lI 0).toInt = 0 from rfl]
    show 0 ≤ (lI a ^^^ lI b).toBitVec.toInt ↔ _
    rw [BitVec.msb_eq_toInt]
    simp
  have ea : (lI a).toBitVec.msb = decide (a < 0) := by
    rw [BitVec.msb_eq_toInt]
    show decide ((lI a).toInt < 0) = _
    rw [lI_toInt ha]
  have eb : (lI b).toBitVec.msb = false := by
    rw [BitVec.msb_eq_toInt]
    show decide ((lI b).toInt < 0) = _
    rw [lI_toInt hb]
    simp; omega
  rw [e0, Int64.toBitVec_xor, BitVec.msb_xor, ea, eb]
  simp
theorem iI_xor {a b : Int} (ha : bI a) (hb : bI b) (h : 0 < b) : 0 ≤ (iI a ^^^ iI b) ↔ 0 ≤ a := by
  have e0 : 0 ≤ (iI a ^^^ iI b) ↔ (iI a ^^^ iI b).toBitVec.msb = false := by
    rw [Int32.le_iff_toInt_le, Int32.toInt_zero]
    show 0 ≤ (iI a ^^^ iI b).toBitVec.toInt ↔ _
    rw [BitVec.msb_eq_toInt]
    simp
  have ea : (iI a).toBitVec.msb = decide (a < 0) := by
    rw [BitVec.msb_eq_toInt]
    show decide ((iI a).toInt < 0) = _
    rw [iI_toInt ha]
  have eb : (iI b).toBitVec.msb = false := by
    rw [BitVec.msb_eq_toInt]
    show decide ((iI b).toInt < 0) = _
    rw [iI_toInt hb]
    simp; omega
  rw [e0, Int32.toBitVec_xor, BitVec.msb_xor, ea, eb]
  simp
/-- a shift to the right by so many bits: the quotient, rounded down -/
theorem lI_shr {a : Int} (ha : bL a) (n : Nat) (hn : n < 64) : lI a >>> ((iI (n : Int)).toInt64 &&& 63) = lI (a / 2 ^ n) := by
  have e1 : ∀ n, n < 64 → ((((iI ((n : Nat) : Int)).toInt64 &&& 63).toBitVec.smod 64).toNat) = n := by decide +kernel
  have h1 : (lI a >>> ((iI (n : Int)).toInt64 &&& 63)).toInt = a / 2 ^ n := by
    show ((lI a).toBitVec.sshiftRight ((((iI (n : Int)).toInt64 &&& 63).toBitVec.smod 64).toNat)).toInt = _
    rw [e1 n hn, BitVec.toInt_sshiftRight]
    show (lI a).toInt >>> n = _
    rw [lI_toInt ha, Int.shiftRight_eq_div_pow]
    simp
  have h2 : bL (a / 2 ^ n) := by
    have hp : (0 : Int) < 2 ^ n := Int.pow_pos (by decide)
    have h3 := ediv_sp (a := a) hp
    constructor
    · have := ha.1
      rcases Int.lt_or_le (a / 2 ^ n) 0 with q | q
      · have : (a : Int) ≤ a / 2 ^ n := by
          have : a / 2 ^ n ≥ a := by
            apply (Int.le_ediv_iff_mul_le hp).mpr
            by_cases h0 : 0 ≤ a
            · have := Int.ediv_nonneg h0 (Int.le_of_lt hp); omega
            · have : a * 2 ^ n ≤ a * 1 := Int.mul_le_mul_of_nonpos_left (by omega) (by omega)
              omega
          omega
        omega
      · omega
    · have := ha.2
      have h4 : a / 2 ^ n ≤ 9223372036854775807 := by
        apply Int.le_of_lt_add_one
        apply (Int.ediv_lt_iff_lt_mul hp).mpr
        have : (9223372036854775807 + 1) * 1 ≤ (9223372036854775807 + 1) * (2 : Int) ^ n := Int.mul_le_mul_of_nonneg_left (by omega) (by decide)
        omega
      exact h4
  exact Int64.toInt_inj.mp (by rw [h1, lI_toInt h2])
