theorem sign_3 (z : Int) : (Int.sign z = 1 ∧ 0 < z) ∨ (Int.sign z = 0 ∧ z = 0) ∨ (Int.sign z = -1 ∧ z < 0) := by
  rcases Int.lt_trichotomy z 0 with q | q | q
  · exact Or.inr (Or.inr ⟨Int.sign_eq_neg_one_of_neg q, q⟩)
  · exact Or.inr (Or.inl ⟨by rw [q]; rfl, q⟩)
  · exact Or.inl ⟨Int.sign_eq_one_of_pos q, q⟩
theorem mul_3 {s v : Int} (h : s = 1 ∨ s = 0 ∨ s = -1) : s * v = v ∨ s * v = 0 ∨ s * v = -v := by
  rcases h with rfl | rfl | rfl <;> omega
theorem mul_w {v w : Int} (h : w = 1 ∨ w = -1) : v * w = v ∨ v * w = -v := by
  rcases h with rfl | rfl <;> omega
