/-! a polygon with an area holds no point beyond its corners -/
theorem zz_mul {s w : Int} (h : s * w = 0) (hw : w ≠ 0) : s = 0 := by
  rcases Int.mul_eq_zero.mp h with q | q
  · exact q
  · exact absurd q hw
theorem pos_mul {s w : Int} (hs : 0 ≤ s) (hw : 0 < w) : 0 ≤ s * w := Int.mul_nonneg hs (by omega)
theorem w3p {s0 s1 s2 w0 w1 w2 : Int} (h : s0 * w0 + s1 * w1 + s2 * w2 = 0) (a0 : 0 ≤ s0) (a1 : 0 ≤ s1) (a2 : 0 ≤ s2) (b0 : 0 < w0) (b1 : 0 < w1) (b2 : 0 < w2) : s0 + s1 + s2 = 0 := by
  have p0 := pos_mul a0 b0
  have p1 := pos_mul a1 b1
  have p2 := pos_mul a2 b2
  have z0 := zz_mul (show s0 * w0 = 0 by omega) (by omega)
  have z1 := zz_mul (show s1 * w1 = 0 by omega) (by omega)
  have z2 := zz_mul (show s2 * w2 = 0 by omega) (by omega)
  omega
theorem w4p {s0 s1 s2 s3 w0 w1 w2 w3 : Int} (h : s0 * w0 + s1 * w1 + s2 * w2 + s3 * w3 = 0) (a0 : 0 ≤ s0) (a1 : 0 ≤ s1) (a2 : 0 ≤ s2) (a3 : 0 ≤ s3) (b0 : 0 < w0) (b1 : 0 < w1) (b2 : 0 < w2) (b3 : 0 < w3) : s0 + s1 + s2 + s3 = 0 := by
  have p0 := pos_mul a0 b0
  have p1 := pos_mul a1 b1
  have p2 := pos_mul a2 b2
  have p3 := pos_mul a3 b3
  have z0 := zz_mul (show s0 * w0 = 0 by omega) (by omega)
  have z1 := zz_mul (show s1 * w1 = 0 by omega) (by omega)
  have z2 := zz_mul (show s2 * w2 = 0 by omega) (by omega)
  have z3 := zz_mul (show s3 * w3 = 0 by omega) (by omega)
  omega
theorem neg3 {s0 s1 s2 w0 w1 w2 : Int} (h : s0 * w0 + s1 * w1 + s2 * w2 = 0) : (-s0) * w0 + (-s1) * w1 + (-s2) * w2 = 0 ∧ s0 * (-w0) + s1 * (-w1) + s2 * (-w2) = 0 ∧ (-s0) * (-w0) + (-s1) * (-w1) + (-s2) * (-w2) = 0 := by
  simp only [Int.neg_mul, Int.mul_neg, Int.neg_neg]
  omega
theorem neg4 {s0 s1 s2 s3 w0 w1 w2 w3 : Int} (h : s0 * w0 + s1 * w1 + s2 * w2 + s3 * w3 = 0) : (-s0) * w0 + (-s1) * w1 + (-s2) * w2 + (-s3) * w3 = 0 := by
  simp only [Int.neg_mul]
  omega
/-- weights of one sign, sides of one sign -/
theorem w3 {s0 s1 s2 w0 w1 w2 : Int} (h : s0 * w0 + s1 * w1 + s2 * w2 = 0) (hs : (0 ≤ s0 ∧ 0 ≤ s1 ∧ 0 ≤ s2) ∨ (s0 ≤ 0 ∧ s1 ≤ 0 ∧ s2 ≤ 0)) (hw : (0 < w0 ∧ 0 < w1 ∧ 0 < w2) ∨ (w0 < 0 ∧ w1 < 0 ∧ w2 < 0)) : s0 + s1 + s2 = 0 := by
  obtain ⟨n1, n2, n3⟩ := neg3 h
  rcases hs with hs | hs <;> rcases hw with hw | hw
  · exact w3p h hs.1 hs.2.1 hs.2.2 hw.1 hw.2.1 hw.2.2
  · exact w3p n2 hs.1 hs.2.1 hs.2.2 (by omega) (by omega) (by omega)
  · have := w3p n1 (by omega) (by omega) (by omega) hw.1 hw.2.1 hw.2.2; omega
  · have := w3p n3 (by omega) (by omega) (by omega) (by omega) (by omega) (by omega); omega
theorem pp {a b : Int} (h : (0 < a ∧ 0 < b) ∨ (a < 0 ∧ b < 0)) : 0 < a * b := by
  rcases h with h | h
  · exact Int.mul_pos h.1 h.2
  · exact Int.mul_pos_of_neg_of_neg h.1 h.2
theorem w4 {s0 s1 s2 s3 b0 b1 b2 b3 : Int} (h : s0 * (b2 * b3) + s1 * (b0 * b3) + s2 * (b0 * b1) + s3 * (b1 * b2) = 0) (hs : (0 ≤ s0 ∧ 0 ≤ s1 ∧ 0 ≤ s2 ∧ 0 ≤ s3) ∨ (s0 ≤ 0 ∧ s1 ≤ 0 ∧ s2 ≤ 0 ∧ s3 ≤ 0)) (hw : (0 < b0 ∧ 0 < b1 ∧ 0 < b2 ∧ 0 < b3) ∨ (b0 < 0 ∧ b1 < 0 ∧ b2 < 0 ∧ b3 < 0)) : s0 + s1 + s2 + s3 = 0 := by
  have k0 := pp (a := b2) (b := b3) (by omega)
  have k1 := pp (a := b0) (b := b3) (by omega)
  have k2 := pp (a := b0) (b := b1) (by omega)
  have k3 := pp (a := b1) (b := b2) (by omega)
  rcases hs with hs | hs
  · exact w4p h hs.1 hs.2.1 hs.2.2.1 hs.2.2.2 k0 k1 k2 k3
  · have := w4p (neg4 h) (by omega) (by omega) (by omega) (by omega) k0 k1 k2 k3; omega
theorem sd3 (xs ys : Int → Int) (x y : Int) : side xs ys 3 0 x y * (ys 2 - y) + side xs ys 3 1 x y * (ys 0 - y) + side xs ys 3 2 x y * (ys 1 - y) = 0 ∧ side xs ys 3 0 x y * (xs 2 - x) + side xs ys 3 1 x y * (xs 0 - x) + side xs ys 3 2 x y * (xs 1 - x) = 0 := by
  have e0 : nxt 3 0 = 1 := by decide
  have e1 : nxt 3 1 = 2 := by decide
  have e2 : nxt 3 2 = 0 := by decide
  simp only [side, e0, e1, e2]
  constructor <;> grind
theorem sd4 (xs ys : Int → Int) (x y : Int) : side xs ys 4 0 x y * ((ys 2 - y) * (ys 3 - y)) + side xs ys 4 1 x y * ((ys 0 - y) * (ys 3 - y)) + side xs ys 4 2 x y * ((ys 0 - y) * (ys 1 - y)) + side xs ys 4 3 x y * ((ys 1 - y) * (ys 2 - y)) = 0 ∧ side xs ys 4 0 x y * ((xs 2 - x) * (xs 3 - x)) + side xs ys 4 1 x y * ((xs 0 - x) * (xs 3 - x)) + side xs ys 4 2 x y * ((xs 0 - x) * (xs 1 - x)) + side xs ys 4 3 x y * ((xs 1 - x) * (xs 2 - x)) = 0 := by
  have e0 : nxt 4 0 = 1 := by decide
  have e1 : nxt 4 1 = 2 := by decide
  have e2 : nxt 4 2 = 3 := by decide
  have e3 : nxt 4 3 = 0 := by decide
  simp only [side, e0, e1, e2, e3]
  constructor <;> grind
theorem pg_box {xs ys : Int → Int} {nc x y : Int} (hn : nc = 3 ∨ nc = 4) (hin : inPg xs ys nc x y) (hb : (∀ i, 0 ≤ i → i < nc → y < ys i) ∨ (∀ i, 0 ≤ i → i < nc → ys i < y) ∨ (∀ i, 0 ≤ i → i < nc → x < xs i) ∨ (∀ i, 0 ≤ i → i < nc → xs i < x)) : shoe xs ys nc nc.toNat = 0 := by
  unfold inPg at hin
  rcases hn with rfl | rfl
  · have e : (3 : Int).toNat = 3 := rfl
    rw [e, shoe_3 xs ys x y]
    rw [i_3, i_3] at hin
    rw [i_3, i_3, i_3, i_3] at hb
    obtain ⟨d1, d2⟩ := sd3 xs ys x y
    rcases hb with hb | hb | hb | hb
    · exact w3 d1 hin (by omega)
    · exact w3 d1 hin (by omega)
    · exact w3 d2 hin (by omega)
    · exact w3 d2 hin (by omega)
  · have e : (4 : Int).toNat = 4 := rfl
    rw [e, shoe_4 xs ys x y]
    rw [i_4, i_4] at hin
    rw [i_4, i_4, i_4, i_4] at hb
    obtain ⟨d1, d2⟩ := sd4 xs ys x y
    rcases hb with hb | hb | hb | hb
    · exact w4 d1 hin (by omega)
    · exact w4 d1 hin (by omega)
    · exact w4 d2 hin (by omega)
    · exact w4 d2 hin (by omega)
