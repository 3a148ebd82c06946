theorem shoe_bL {xs ys : Int → Int} {nc : Int} (hn : nc = 3 ∨ nc = 4) (hx : coB xs nc) (hy : coB ys nc) : bL (shoe xs ys nc nc.toNat) := by
  have m : ∀ i j, 0 ≤ i → i < nc → 0 ≤ j → j < nc → -(600000000 * 600000000) ≤ xs i * ys j ∧ xs i * ys j ≤ 600000000 * 600000000 := fun i j a b d e => mul_bd (hx i a b) (hy j d e)
  have m2 : ∀ i j, 0 ≤ i → i < nc → 0 ≤ j → j < nc → -(600000000 * 600000000) ≤ ys i * xs j ∧ ys i * xs j ≤ 600000000 * 600000000 := fun i j a b d e => mul_bd (hy i a b) (hx j d e)
  have st : ∀ k : Nat, (k : Int) < nc → -(2 * (600000000 * 600000000)) ≤ xs k * ys (nxt nc k) - ys k * xs (nxt nc k) ∧ xs k * ys (nxt nc k) - ys k * xs (nxt nc k) ≤ 2 * (600000000 * 600000000) := by
    intro k hk
    have n := nxt_in (nc := nc) (i := (k : Int)) (by omega) hk
    have a := m k _ (by omega) hk n.1 n.2
    have b := m2 k _ (by omega) hk n.1 n.2
    omega
  rcases hn with rfl | rfl
  · have e : (3 : Int).toNat = 3 := rfl
    rw [e]
    have s0 := st 0 (by decide)
    have s1 := st 1 (by decide)
    have s2 := st 2 (by decide)
    simp only [shoe]
    unfold bL
    omega
  · have e : (4 : Int).toNat = 4 := rfl
    rw [e]
    have s0 := st 0 (by decide)
    have s1 := st 1 (by decide)
    have s2 := st 2 (by decide)
    have s3 := st 3 (by decide)
    simp only [shoe]
    unfold bL
    omega
theorem sq_far {d r : Int} (hr : 0 ≤ r) (h : d * d ≤ r * r) : -r ≤ d ∧ d ≤ r := by
  constructor
  · rcases Int.lt_or_le d (-r) with q | q
    · have := sq_le (a := r + 1) (b := -d) (by omega) (by omega)
      rw [Int.neg_mul_neg, Int.add_mul, Int.mul_add] at this
      omega
    · exact q
  · rcases Int.lt_or_le r d with q | q
    · have := sq_le (a := r + 1) (b := d) (by omega) (by omega)
      rw [Int.add_mul, Int.mul_add] at this
      omega
    · exact q
