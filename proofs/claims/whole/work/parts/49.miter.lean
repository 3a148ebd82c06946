theorem sr_nar {z : Int} {P : Prop} (h : z = 1 ∧ P ∨ z = 0 ∧ ¬ P) : narrow .boolean (.int (iI z)) = .int (iI z) := by
  rcases h with h | h <;> rw [h.1] <;> decide
/-- the miter of a join -/
def mitS (o1 o2 p1 p2 : Int) : Int := Int.sign (o1 * p2 - o2 * p1)
def mitA (s o1 o2 p1 p2 H : Int) : Int := H * H + (s * o1) * (s * p1) + (s * o2) * (s * p2)
def mitP (vx vy o1 o2 p1 p2 H lm x y : Int) : Prop := ¬ o1 * p2 - o2 * p1 = 0 ∧ 0 < mitA (mitS o1 o2 p1 p2) o1 o2 p1 p2 H ∧ 8192 * (H * H) ≤ lm * lm * mitA (mitS o1 o2 p1 p2) o1 o2 p1 p2 H ∧
  inPg (q4 vx (vx + mitS o1 o2 p1 p2 * o1) (vx + ((mitS o1 o2 p1 p2 * o1 + mitS o1 o2 p1 p2 * p1) * (H * H)) / mitA (mitS o1 o2 p1 p2) o1 o2 p1 p2 H) (vx + mitS o1 o2 p1 p2 * p1))
    (q4 vy (vy + mitS o1 o2 p1 p2 * o2) (vy + ((mitS o1 o2 p1 p2 * o2 + mitS o1 o2 p1 p2 * p2) * (H * H)) / mitA (mitS o1 o2 p1 p2) o1 o2 p1 p2 H) (vy + mitS o1 o2 p1 p2 * p2)) 4 x y
theorem mit_bd {v sq pa L : Int} (hv : -65536 ≤ v ∧ v ≤ 65536) (hs : 0 ≤ sq) (hp : 0 < pa) (hL : 0 ≤ L ∧ L ≤ 67108864) (h : 8192 * sq ≤ L * pa) : -536870912 ≤ v * sq / pa ∧ v * sq / pa ≤ 536870912 := by
  have h1 : L * pa ≤ 67108864 * pa := Int.mul_le_mul_of_nonneg_right hL.2 (by omega)
  have h2 : sq ≤ 8192 * pa := by omega
  have h3 : v * sq ≤ 65536 * sq := Int.mul_le_mul_of_nonneg_right hv.2 hs
  have h4 : -65536 * sq ≤ v * sq := Int.mul_le_mul_of_nonneg_right hv.1 hs
  constructor
  · apply (Int.le_ediv_iff_mul_le hp).mpr
    omega
  · apply Int.le_of_lt_add_one
    apply (Int.ediv_lt_iff_lt_mul hp).mpr
    omega
theorem q4_zq {f g : Int → Int} {a b c d a2 b2 c2 d2 x y A B C E A2 B2 C2 E2 : Int} (e0 : a = A) (e1 : b = B) (e2 : c = C) (e3 : d = E) (k0 : a2 = A2) (k1 : b2 = B2) (k2 : c2 = C2) (k3 : d2 = E2) : inPg (zup (zup (zup (zup f 0 a) 1 b) 2 c) 3 d) (zup (zup (zup (zup g 0 a2) 1 b2) 2 c2) 3 d2) 4 x y ↔ inPg (q4 A B C E) (q4 A2 B2 C2 E2) 4 x y := by
  subst e0 e1 e2 e3 k0 k1 k2 k3
  exact zq4
