/-- the OFFSET (ox, oy) of a segment with the differences dx, dy -/
def sgO (H dx dy ox oy : Int) : Prop := ∃ u v, isOff H dy (dx * dx + dy * dy) u ∧ isOff H dx (dx * dx + dy * dy) v ∧ u ≤ H ∧ v ≤ H ∧ ox = (if dy < 0 then -u else u) ∧ oy = -(if dx < 0 then -v else v)
theorem sq_pos {dx dy : Int} (h : ¬ (dx = 0 ∧ dy = 0)) : 0 < dx * dx + dy * dy := by
  have a := sq_nn dx
  have b := sq_nn dy
  rcases Int.lt_or_le 0 (dx * dx + dy * dy) with q | q
  · exact q
  · exact absurd ⟨by rcases Int.mul_eq_zero.mp (show dx * dx = 0 by omega) with q | q <;> exact q, by rcases Int.mul_eq_zero.mp (show dy * dy = 0 by omega) with q | q <;> exact q⟩ h
theorem sgO_uniq {H dx dy a b c d : Int} (h : ¬ (dx = 0 ∧ dy = 0)) (h1 : sgO H dx dy a b) (h2 : sgO H dx dy c d) : a = c ∧ b = d := by
  obtain ⟨u, v, p1, p2, -, -, p3, p4⟩ := h1
  obtain ⟨u2, v2, q1, q2, -, -, q3, q4⟩ := h2
  have e1 := isOff_uniq (sq_pos h) p1 q1
  have e2 := isOff_uniq (sq_pos h) p2 q2
  subst e1 e2
  exact ⟨p3.trans q3.symm, p4.trans q4.symm⟩
theorem sgO_bd {H dx dy a b : Int} (h : sgO H dx dy a b) : (-H ≤ a ∧ a ≤ H) ∧ (-H ≤ b ∧ b ≤ H) := by
  obtain ⟨u, v, p1, p2, p5, p6, p3, p4⟩ := h
  have := p1.1
  have := p2.1
  rw [p3, p4]
  constructor
  · split <;> omega
  · split <;> omega
