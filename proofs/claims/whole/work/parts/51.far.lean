/-! what lies far from a piece lies in none of its shapes but its miter -/
theorem q4_0 (a b c d : Int) : q4 a b c d 0 = a := rfl
theorem q4_1 (a b c d : Int) : q4 a b c d 1 = b := rfl
theorem q4_2 (a b c d : Int) : q4 a b c d 2 = c := rfl
theorem q4_3 (a b c d : Int) : q4 a b c d 3 = d := rfl
theorem shoe_q4 (a b c d a2 b2 c2 d2 : Int) : shoe (q4 a b c d) (q4 a2 b2 c2 d2) 4 4 = (a * b2 - a2 * b) + (b * c2 - b2 * c) + (c * d2 - c2 * d) + (d * a2 - d2 * a) := by
  have e0 : nxt 4 0 = 1 := by decide
  have e1 : nxt 4 1 = 2 := by decide
  have e2 : nxt 4 2 = 3 := by decide
  have e3 : nxt 4 3 = 0 := by decide
  simp only [shoe]
  simp only [Int.natCast_zero, Int.natCast_one, Int.cast_ofNat_Int, e0, e1, e2, e3, q4_0, q4_1, q4_2, q4_3]
  omega
theorem shoe_q3 (a b c a2 b2 c2 : Int) : shoe (q4 a b c 0) (q4 a2 b2 c2 0) 3 3 = (a * b2 - a2 * b) + (b * c2 - b2 * c) + (c * a2 - c2 * a) := by
  have e0 : nxt 3 0 = 1 := by decide
  have e1 : nxt 3 1 = 2 := by decide
  have e2 : nxt 3 2 = 0 := by decide
  simp only [shoe]
  simp only [Int.natCast_zero, Int.natCast_one, Int.cast_ofNat_Int, e0, e1, e2, q4_0, q4_1, q4_2]
  omega
/-- beyond a box -/
def outB (x y xl xh yl yh : Int) : Prop := xh < x ∨ x < xl ∨ yh < y ∨ y < yl
theorem q4_far {a b c d a2 b2 c2 d2 x y xl xh yl yh : Int} (hin : inPg (q4 a b c d) (q4 a2 b2 c2 d2) 4 x y) (ho : outB x y xl xh yl yh) (ha : xl ≤ a ∧ a ≤ xh) (hb : xl ≤ b ∧ b ≤ xh) (hc : xl ≤ c ∧ c ≤ xh) (hd : xl ≤ d ∧ d ≤ xh) (ka : yl ≤ a2 ∧ a2 ≤ yh) (kb : yl ≤ b2 ∧ b2 ≤ yh) (kc : yl ≤ c2 ∧ c2 ≤ yh) (kd : yl ≤ d2 ∧ d2 ≤ yh) : (a * b2 - a2 * b) + (b * c2 - b2 * c) + (c * d2 - c2 * d) + (d * a2 - d2 * a) = 0 := by
  rw [← shoe_q4]
  refine pg_box (Or.inr rfl) hin ?_
  rw [i_4, i_4, i_4, i_4]
  simp only [q4_0, q4_1, q4_2, q4_3]
  rcases ho with h | h | h | h
  · exact Or.inr (Or.inr (Or.inr ⟨by omega, by omega, by omega, by omega⟩))
  · exact Or.inr (Or.inr (Or.inl ⟨by omega, by omega, by omega, by omega⟩))
  · exact Or.inr (Or.inl ⟨by omega, by omega, by omega, by omega⟩)
  · exact Or.inl ⟨by omega, by omega, by omega, by omega⟩
theorem q3_far {a b c a2 b2 c2 x y xl xh yl yh : Int} (hin : inPg (q4 a b c 0) (q4 a2 b2 c2 0) 3 x y) (ho : outB x y xl xh yl yh) (ha : xl ≤ a ∧ a ≤ xh) (hb : xl ≤ b ∧ b ≤ xh) (hc : xl ≤ c ∧ c ≤ xh) (ka : yl ≤ a2 ∧ a2 ≤ yh) (kb : yl ≤ b2 ∧ b2 ≤ yh) (kc : yl ≤ c2 ∧ c2 ≤ yh) : (a * b2 - a2 * b) + (b * c2 - b2 * c) + (c * a2 - c2 * a) = 0 := by
  rw [← shoe_q3]
  refine pg_box (Or.inl rfl) hin ?_
  rw [i_3, i_3, i_3, i_3]
  simp only [q4_0, q4_1, q4_2]
  rcases ho with h | h | h | h
  · exact Or.inr (Or.inr (Or.inr ⟨by omega, by omega, by omega⟩))
  · exact Or.inr (Or.inr (Or.inl ⟨by omega, by omega, by omega⟩))
  · exact Or.inr (Or.inl ⟨by omega, by omega, by omega⟩)
  · exact Or.inl ⟨by omega, by omega, by omega⟩
theorem body_far {ax ay bx bz ox oy H x y : Int} (hB : pcB ax ay bx bz ox oy H) (hnd : ¬ (ax = bx ∧ ay = bz) → ¬ (bx - ax) * oy - (bz - ay) * ox = 0) (ho : outB x y (min ax bx - 2 * H) (max ax bx + 2 * H) (min ay bz - 2 * H) (max ay bz + 2 * H)) : ¬ bodyP ax ay bx bz ox oy x y := by
  rintro ⟨h1, h2⟩
  unfold pcB at hB
  have h3 := q4_far h2 ho (by omega) (by omega) (by omega) (by omega) (by omega) (by omega) (by omega) (by omega)
  apply hnd h1
  have e : (ax + ox) * (bz + oy) - (ay + oy) * (bx + ox) + ((bx + ox) * (bz - oy) - (bz + oy) * (bx - ox)) + ((bx - ox) * (ay - oy) - (bz - oy) * (ax - ox)) + ((ax - ox) * (ay + oy) - (ay - oy) * (ax + ox)) = -4 * ((bx - ax) * oy - (bz - ay) * ox) := by grind
  omega
theorem disc_far {ex ey H x y xl xh yl yh : Int} (hH : 0 ≤ H) (ho : outB x y xl xh yl yh) (h1 : xl ≤ ex - H ∧ ex + H ≤ xh) (h2 : yl ≤ ey - H ∧ ey + H ≤ yh) : ¬ discP ex ey H x y := by
  intro h
  unfold discP at h
  have a := sq_far (d := x - ex) hH (by have := sq_nn (y - ey); omega)
  have b := sq_far (d := y - ey) hH (by have := sq_nn (x - ex); omega)
  unfold outB at ho
  omega
theorem sq_far2 {ex ey ox oy w H x y xl xh yl yh : Int} (hw : w = 1 ∨ w = -1) (h0 : ¬ (ox = 0 ∧ oy = 0)) (h5 : -H ≤ ox ∧ ox ≤ H) (h6 : -H ≤ oy ∧ oy ≤ H) (ho : outB x y xl xh yl yh) (h1 : xl ≤ ex - 2 * H ∧ ex + 2 * H ≤ xh) (h2 : yl ≤ ey - 2 * H ∧ ey + 2 * H ≤ yh) : ¬ sqP ex ey ox oy w x y := by
  intro h
  have m1 := mul_w (v := -oy) hw
  have m2 := mul_w (v := ox) hw
  have h3 := q4_far h ho (by omega) (by omega) (by omega) (by omega) (by omega) (by omega) (by omega) (by omega)
  have e : (ex + ox) * (ey + oy + ox * w) - (ey + oy) * (ex + ox + -oy * w) + ((ex + ox + -oy * w) * (ey - oy + ox * w) - (ey + oy + ox * w) * (ex - ox + -oy * w)) + ((ex - ox + -oy * w) * (ey - oy) - (ey - oy + ox * w) * (ex - ox)) + ((ex - ox) * (ey + oy) - (ey - oy) * (ex + ox)) = 4 * w * (ox * ox + oy * oy) := by grind
  rw [e] at h3
  have s1 := sq_nn ox
  have s2 := sq_nn oy
  have hz : ox * ox + oy * oy = 0 := by
    rcases hw with rfl | rfl <;> omega
  exact h0 ⟨by rcases Int.mul_eq_zero.mp (show ox * ox = 0 by omega) with q | q <;> exact q, by rcases Int.mul_eq_zero.mp (show oy * oy = 0 by omega) with q | q <;> exact q⟩
theorem caps_far {cp bef kind ax ay bx bz ox oy H x y : Int} (hB : pcB ax ay bx bz ox oy H) (h0 : ¬ kind = 2 → ¬ (ox = 0 ∧ oy = 0)) (ho : outB x y (min ax bx - 2 * H) (max ax bx + 2 * H) (min ay bz - 2 * H) (max ay bz + 2 * H)) : ¬ capsP cp bef kind ax ay bx bz ox oy H x y := by
  unfold pcB at hB
  rintro (⟨_, h | ⟨_, k, h⟩⟩ | ⟨_, h | ⟨_, k, h⟩⟩)
  · exact disc_far (by omega) ho (by omega) (by omega) h.2
  · exact sq_far2 (H := H) (Or.inr rfl) (h0 k) (by omega) (by omega) ho (by omega) (by omega) h
  · exact disc_far (by omega) ho (by omega) (by omega) h.2
  · exact sq_far2 (H := H) (Or.inl rfl) (h0 k) (by omega) (by omega) ho (by omega) (by omega) h
theorem join_far {jn ax ay bx bz o1 o2 ox oy H x y : Int} (hB : pcB ax ay bx bz ox oy H) (h1 : -H ≤ o1 ∧ o1 ≤ H) (h2 : -H ≤ o2 ∧ o2 ≤ H) (ho : outB x y (min ax bx - 2 * H) (max ax bx + 2 * H) (min ay bz - 2 * H) (max ay bz + 2 * H)) : ¬ joinP jn ax ay o1 o2 ox oy H x y := by
  unfold pcB at hB
  rintro (h | ⟨_, hz, h⟩)
  · exact disc_far (by omega) ho (by omega) (by omega) h.2
  · have hs := sign_3 (o1 * oy - o2 * ox)
    generalize Int.sign (o1 * oy - o2 * ox) = s at h hs
    have hs4 : s = 1 ∨ s = 0 ∨ s = -1 := by omega
    have t1 := mul_3 (v := o1) hs4
    have t2 := mul_3 (v := o2) hs4
    have t3 := mul_3 (v := ox) hs4
    have t4 := mul_3 (v := oy) hs4
    have h3 := q3_far h ho (by omega) (by omega) (by omega) (by omega) (by omega) (by omega)
    have e : ax * (ay + s * o2) - ay * (ax + s * o1) + ((ax + s * o1) * (ay + s * oy) - (ay + s * o2) * (ax + s * ox)) + ((ax + s * ox) * ay - (ay + s * oy) * ax) = s * s * (o1 * oy - o2 * ox) := by grind
    rw [e] at h3
    rcases hs with ⟨rfl, q⟩ | ⟨rfl, q⟩ | ⟨rfl, q⟩ <;> omega
