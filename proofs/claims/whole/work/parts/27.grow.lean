/-! how the rows of a path grow -/
def gF (np : Int) (cap : Nat) : Nat := if np < cap then cap else 2 * cap
def gFn (np : Int) (cap : Nat) : Nat → Nat
  | 0 => cap
  | k + 1 => gF (np + k) (gFn np cap k)
def capP (c : Nat) : Prop := c = 16 ∨ c = 32 ∨ c = 64 ∨ c = 128 ∨ c = 256 ∨ c = 512 ∨ c = 1024
theorem gF_ok {np : Int} {c : Nat} (h : capP c) (h0 : 0 ≤ np) (h1 : np < 1024) (h2 : np ≤ c) : capP (gF np c) ∧ np + 1 ≤ gF np c ∧ c ≤ gF np c := by
  unfold gF
  unfold capP at *
  split <;> omega
theorem capP_le {c : Nat} (h : capP c) : 16 ≤ c ∧ c ≤ 1024 := by unfold capP at h; omega
theorem capP_half {np : Int} {c : Nat} (h : capP c) (h1 : np < 1024) (h2 : ¬ np < c) : 2 * c ≤ 1024 := by unfold capP at h; omega
theorem gFn_ok {np : Int} {c : Nat} (h : capP c) (h0 : 0 ≤ np) (h2 : np ≤ c) : ∀ k : Nat, np + k ≤ 1024 → capP (gFn np c k) ∧ np + k ≤ gFn np c k ∧ c ≤ gFn np c k := by
  intro k
  induction k with
  | zero => intro _; exact ⟨h, by simpa [gFn] using h2, Nat.le_refl _⟩
  | succ k ih =>
    intro hk
    obtain ⟨a, b, d⟩ := ih (by omega)
    obtain ⟨x, y, z⟩ := gF_ok a (np := np + k) (by omega) (by omega) b
    refine ⟨x, ?_, Nat.le_trans d z⟩
    show np + ((k + 1 : Nat) : Int) ≤ gF (np + k) (gFn np c k)
    omega
theorem gFn_mono {np : Int} {c : Nat} (k : Nat) : gFn np c k ≤ gFn np c (k + 1) := by
  show gFn np c k ≤ gF (np + k) (gFn np c k)
  unfold gF
  split <;> omega
theorem gFn_le {np : Int} {c : Nat} {j k : Nat} (h : j ≤ k) : gFn np c j ≤ gFn np c k := by
  induction k with
  | zero => rw [Nat.le_zero.mp h]; exact Nat.le_refl _
  | succ k ih =>
    rcases Nat.lt_or_eq_of_le h with q | q
    · exact Nat.le_trans (ih (by omega)) (gFn_mono k)
    · rw [q]; exact Nat.le_refl _
theorem gFn_step {np k : Int} {c : Nat} (h : 1 ≤ k) : gFn np c (k + 1 - 1).toNat = gF (np + (k - 1)) (gFn np c (k - 1).toNat) := by
  have e : (k + 1 - 1).toNat = (k - 1).toNat + 1 := by omega
  rw [e]
  show gF (np + ((k - 1).toNat : Int)) _ = _
  rw [Int.toNat_of_nonneg (by omega)]
/-- a point of a curve -/
def bez (p c d q k : Int) : Int := (p * (16 - k) * (16 - k) * (16 - k) + 3 * c * k * (16 - k) * (16 - k) + 3 * d * k * k * (16 - k) + q * k * k * k + 2048) / 4096
def coP (x : Int) : Prop := -8192 ≤ x ∧ x ≤ 8191
theorem k16 {k : Int} (h1 : 1 ≤ k) (h2 : k ≤ 16) : k = 1 ∨ k = 2 ∨ k = 3 ∨ k = 4 ∨ k = 5 ∨ k = 6 ∨ k = 7 ∨ k = 8 ∨ k = 9 ∨ k = 10 ∨ k = 11 ∨ k = 12 ∨ k = 13 ∨ k = 14 ∨ k = 15 ∨ k = 16 := by omega
theorem bez_bd {p c d q k : Int} (hp : coP p) (hc : coP c) (hd : coP d) (hq : coP q) (h1 : 1 ≤ k) (h2 : k ≤ 16) : -33554432 ≤ p * (16 - k) * (16 - k) * (16 - k) + 3 * c * k * (16 - k) * (16 - k) + 3 * d * k * k * (16 - k) + q * k * k * k ∧ p * (16 - k) * (16 - k) * (16 - k) + 3 * c * k * (16 - k) * (16 - k) + 3 * d * k * k * (16 - k) + q * k * k * k ≤ 33550336 := by
  unfold coP at *
  rcases k16 h1 h2 with rfl | rfl | rfl | rfl | rfl | rfl | rfl | rfl | rfl | rfl | rfl | rfl | rfl | rfl | rfl | rfl <;> omega
theorem bez_co {p c d q k : Int} (hp : coP p) (hc : coP c) (hd : coP d) (hq : coP q) (h1 : 1 ≤ k) (h2 : k ≤ 16) : coP (bez p c d q k) := by
  have h := bez_bd hp hc hd hq h1 h2
  unfold bez coP
  generalize p * (16 - k) * (16 - k) * (16 - k) + 3 * c * k * (16 - k) * (16 - k) + 3 * d * k * k * (16 - k) + q * k * k * k = z at h ⊢
  omega
