/-! how the rows of the pieces grow -/
def gP (h : Int) (cap : Nat) : Nat := if h < cap ∨ 2000 ≤ h then cap else min 2000 (2 * cap)
def capQ (c : Nat) : Prop := c = 16 ∨ c = 32 ∨ c = 64 ∨ c = 128 ∨ c = 256 ∨ c = 512 ∨ c = 1024 ∨ c = 2000
theorem gP_ok {h : Int} {c : Nat} (hc : capQ c) (h0 : 0 ≤ h) (h2 : h ≤ c) : capQ (gP h c) ∧ (h < 2000 → h + 1 ≤ gP h c) ∧ c ≤ gP h c := by
  unfold gP
  unfold capQ at *
  split <;> omega
theorem capQ_le {c : Nat} (h : capQ c) : 16 ≤ c ∧ c ≤ 2000 := by unfold capQ at h; omega
theorem gP_grow {h : Int} {c : Nat} (hc : capQ c) (h1 : h < 2000) (h2 : ¬ h < c) (h3 : h ≤ c) : c < min 2000 (2 * c) ∧ 8 ≤ min 2000 (2 * c) - c ∧ 8 * min 2000 (2 * c) ≤ 24 * (min 2000 (2 * c) - c) ∧ min 2000 (2 * c) ≤ 2000 := by
  unfold capQ at hc
  omega
