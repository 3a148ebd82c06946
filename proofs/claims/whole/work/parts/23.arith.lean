theorem tmod_neg_bd {a b : Int} (h : 0 < b) (ha : a < 0) : -b < a.tmod b ∧ a.tmod b ≤ 0 ∧ a.tdiv b ≤ 0 := by
  have h2 := Int.tmod_nonneg b (show 0 ≤ -a by omega)
  rw [Int.neg_tmod] at h2
  have h3 := Int.tmod_lt_of_pos (-a) h
  rw [Int.neg_tmod] at h3
  have h4 := Int.tdiv_nonneg (show 0 ≤ -a by omega) (show 0 ≤ b by omega)
  rw [Int.neg_tdiv] at h4
  omega
theorem tdiv_mul_in {a b : Int} (h : 0 < b) : (0 ≤ a → 0 ≤ a.tdiv b * b ∧ a.tdiv b * b ≤ a) ∧ (a < 0 → a ≤ a.tdiv b * b ∧ a.tdiv b * b ≤ 0) := by
  have h1 := Int.mul_tdiv_add_tmod a b
  have e0 : a.tdiv b * b = b * a.tdiv b := Int.mul_comm _ _
  constructor
  · intro h0
    have h2 := Int.tmod_nonneg b h0
    have h3 := Int.mul_nonneg (Int.tdiv_nonneg h0 (show 0 ≤ b by omega)) (show 0 ≤ b by omega)
    omega
  · intro h0
    have h2 := tmod_neg_bd h h0
    have h3 := Int.mul_nonneg (show 0 ≤ -(a.tdiv b) by omega) (show 0 ≤ b by omega)
    rw [Int.neg_mul] at h3
    omega
theorem tdiv_mul_bL {a b : Int} (h : 0 < b) (ha : bL a) : bL (a.tdiv b * b) := by
  have h1 := tdiv_mul_in (a := a) h
  have h2 := ha.1
  have h3 := ha.2
  by_cases h0 : 0 ≤ a
  · have := h1.1 h0; exact ⟨by omega, by omega⟩
  · have := h1.2 (by omega); exact ⟨by omega, by omega⟩
theorem tdiv_mul_bI {a b : Int} (h : 0 < b) (ha : bI a) : bI (a.tdiv b * b) := by
  have h1 := tdiv_mul_in (a := a) h
  have h2 := ha.1
  have h3 := ha.2
  by_cases h0 : 0 ≤ a
  · have := h1.1 h0; exact ⟨by omega, by omega⟩
  · have := h1.2 (by omega); exact ⟨by omega, by omega⟩
