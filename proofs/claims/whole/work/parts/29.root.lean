/-! roots, bit by bit -/
def pw2 (b : Int) : Prop := ∃ k : Nat, b = 2 ^ k
theorem pw2_half {b : Int} (h : pw2 b) : b = 1 ∨ ∃ c, b = 2 * c ∧ pw2 c ∧ b / 2 = c ∧ 0 < c := by
  obtain ⟨k, rfl⟩ := h
  cases k with
  | zero => exact Or.inl rfl
  | succ k =>
    refine Or.inr ⟨2 ^ k, by rw [Int.pow_succ, Int.mul_comm], ⟨k, rfl⟩, ?_, Int.pow_pos (by decide)⟩
    rw [Int.pow_succ]
    exact Int.mul_ediv_cancel _ (by decide)
theorem pw2_pos {b : Int} (h : pw2 b) : 0 < b := by
  obtain ⟨k, rfl⟩ := h
  exact Int.pow_pos (by decide)
/-- where the search stands: found f, the next bit b -/
def rtI (n f b : Int) : Prop := (b = 0 ∧ n < (f + 1) * (f + 1)) ∨ (pw2 b ∧ n < (f + 2 * b) * (f + 2 * b))
theorem rtI_no {n f b : Int} (h : rtI n f b) (hb : 0 < b) (h1 : n < (f + b) * (f + b)) : rtI n f (b / 2) := by
  rcases h with ⟨h, -⟩ | ⟨h, -⟩
  · omega
  · rcases pw2_half h with rfl | ⟨c, e, hc, e2, -⟩
    · exact Or.inl ⟨by decide, h1⟩
    · rw [e2]
      refine Or.inr ⟨hc, ?_⟩
      rw [← e]; exact h1
theorem rtI_yes {n f b : Int} (h : rtI n f b) (hb : 0 < b) : rtI n (f + b) (b / 2) := by
  rcases h with ⟨h, -⟩ | ⟨h, h2⟩
  · omega
  · rcases pw2_half h with rfl | ⟨c, e, hc, e2, -⟩
    · exact Or.inl ⟨by decide, by rw [show f + 1 + 1 = f + 2 * 1 by omega]; exact h2⟩
    · rw [e2]
      refine Or.inr ⟨hc, ?_⟩
      rw [← e, show f + b + b = f + 2 * b by omega]; exact h2
theorem sq_le {a b : Int} (h0 : 0 ≤ a) (h : a ≤ b) : a * a ≤ b * b := Int.mul_le_mul h h h0 (by omega)
/-- the greatest whole number whose square is at most n -/
def isRt (n z : Int) : Prop := 0 ≤ z ∧ z * z ≤ n ∧ n < (z + 1) * (z + 1)
theorem isRt_uniq {n y z : Int} (hy : isRt n y) (hz : isRt n z) : y = z := by
  obtain ⟨a1, a2, a3⟩ := hy
  obtain ⟨b1, b2, b3⟩ := hz
  rcases Int.lt_trichotomy y z with q | q | q
  · have := sq_le (a := y + 1) (b := z) (by omega) (by omega); omega
  · exact q
  · have := sq_le (a := z + 1) (b := y) (by omega) (by omega); omega
