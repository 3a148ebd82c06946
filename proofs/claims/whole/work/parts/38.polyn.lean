theorem shoe_s {xs ys : Int → Int} {nc i : Int} (h : 0 ≤ i) : shoe xs ys nc (i + 1).toNat = shoe xs ys nc i.toNat + (xs i * ys (nxt nc i) - ys i * xs (nxt nc i)) := by
  rw [show (i + 1).toNat = i.toNat + 1 by omega]
  show shoe xs ys nc i.toNat + (xs (i.toNat : Int) * ys (nxt nc (i.toNat : Int)) - ys (i.toNat : Int) * xs (nxt nc (i.toNat : Int))) = _
  rw [Int.toNat_of_nonneg h]
theorem isRt_abs {n z d : Int} (h : isRt n z) : d * d ≤ n ↔ -z ≤ d ∧ d ≤ z := by
  obtain ⟨h0, h1, h2⟩ := h
  constructor
  · intro hd
    by_cases h3 : z < d
    · have := sq_le (a := z + 1) (b := d) (by omega) (by omega); omega
    · by_cases h4 : d < -z
      · have := sq_le (a := z + 1) (b := -d) (by omega) (by omega)
        rw [Int.neg_mul_neg] at this
        omega
      · omega
  · rintro ⟨a, b⟩
    by_cases h3 : 0 ≤ d
    · have := sq_le (a := d) (b := z) h3 b; omega
    · have := sq_le (a := -d) (b := z) (by omega) (by omega)
      rw [Int.neg_mul_neg] at this
      omega
theorem dsc_lo {sx x tx z k : Int} (ht : 0 < tx) : -((sx - x + z) / tx) ≤ k ↔ -z ≤ sx + k * tx - x := by
  have h := Int.le_ediv_iff_mul_le (a := -k) (b := sx - x + z) ht
  rw [Int.neg_mul] at h
  omega
theorem dsc_hi {sx x tx z k : Int} (ht : 0 < tx) : k ≤ (x + z - sx) / tx ↔ sx + k * tx - x ≤ z := by
  have h := Int.le_ediv_iff_mul_le (a := k) (b := x + z - sx) ht
  omega
theorem isRt_le {n z M : Int} (h : isRt n z) (hn : n ≤ M * M) (hM : 0 ≤ M) : z ≤ M := by
  obtain ⟨h0, h1, h2⟩ := h
  rcases Int.lt_or_le M z with q | q
  · have := sq_le (a := M + 1) (b := z) (by omega) (by omega)
    rw [Int.add_mul, Int.mul_add] at this
    omega
  · exact q
theorem sq_nn (d : Int) : 0 ≤ d * d := by
  rcases Int.le_total 0 d with q | q
  · exact Int.mul_nonneg q q
  · exact Int.mul_nonneg_of_nonpos_of_nonpos q q
theorem dsc_iff {n z sx x tx wd k : Int} (hz : isRt n z) (ht : 0 < tx) (k0 : 0 ≤ k) : (max 0 (-((sx - x + z) / tx)) ≤ k ∧ k ≤ min (wd - 1) ((x + z - sx) / tx)) ↔ k < wd ∧ (sx + k * tx - x) * (sx + k * tx - x) ≤ n := by
  have q1 := dsc_lo (sx := sx) (x := x) (z := z) (k := k) ht
  have q2 := dsc_hi (sx := sx) (x := x) (z := z) (k := k) ht
  have q3 := isRt_abs (d := sx + k * tx - x) hz
  rw [q3, ← q1, ← q2]
  omega
