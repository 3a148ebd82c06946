/-! the grid's bounds -/
def grP (sx tx wd : Int) : Prop := -524288 ≤ sx ∧ sx ≤ 524288 ∧ 1 ≤ tx ∧ tx ≤ 1024 ∧ 1 ≤ wd ∧ wd ≤ 64
theorem gr_mul {a b : Int} (h0 : 0 ≤ a) (h1 : a ≤ 63) (h2 : 1 ≤ b) (h3 : b ≤ 1024) : 0 ≤ a * b ∧ a * b ≤ 64512 := by
  have e1 := Int.mul_nonneg h0 (show 0 ≤ b by omega)
  have e2 := Int.mul_le_mul h1 h3 (show 0 ≤ b by omega) (by decide)
  omega
/-- corners are not far -/
def coB (f : Int → Int) (n : Int) : Prop := ∀ i, 0 ≤ i → i < n → -600000000 ≤ f i ∧ f i ≤ 600000000
theorem coB.at {f : Int → Int} {n i : Int} (h : coB f n) (h0 : 0 ≤ i) (h1 : i < n) : -600000000 ≤ f i ∧ f i ≤ 600000000 := h i h0 h1
theorem bL_div {a b : Int} (ha : bL a) (hb : 0 < b) : bL (a / b) := by
  have h := ediv_sp (a := a) hb
  have h1 := ha.1
  have h2 := ha.2
  constructor
  · apply (Int.le_ediv_iff_mul_le hb).mpr
    have : -9223372036854775808 * b ≤ -9223372036854775808 * 1 := Int.mul_le_mul_of_nonpos_left (by decide) (by omega)
    omega
  · apply Int.le_of_lt_add_one
    apply (Int.ediv_lt_iff_lt_mul hb).mpr
    have : (9223372036854775807 + 1) * 1 ≤ (9223372036854775807 + 1) * b := Int.mul_le_mul_of_nonneg_left (by omega) (by decide)
    omega
theorem div_bd {a b M : Int} (hb : 0 < b) (h1 : -M ≤ a) (h2 : a ≤ M) (hM : 0 ≤ M) : -M ≤ a / b ∧ a / b ≤ M := by
  constructor
  · apply (Int.le_ediv_iff_mul_le hb).mpr
    have : -M * b ≤ -M * 1 := Int.mul_le_mul_of_nonpos_left (by omega) (by omega)
    omega
  · apply Int.le_of_lt_add_one
    apply (Int.ediv_lt_iff_lt_mul hb).mpr
    have : (M + 1) * 1 ≤ (M + 1) * b := Int.mul_le_mul_of_nonneg_left (by omega) (by omega)
    omega
