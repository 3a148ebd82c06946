/-- the bits of a row so far -/
def rbP (bv : Int64) (k : Int) (P : Int → Prop) : Prop := ∀ i, 0 ≤ i → i < 64 → (btL bv i ↔ i < k ∧ P i)
theorem rb_1 {P : Int → Prop} {bv : Int64} {k : Int} (h0 : 0 ≤ k) (h1 : k < 64) (h : rbP bv k P) (hp : P k) : rbP (bv ||| lI 1 <<< ((iI k).toInt64 &&& 63)) (k + 1) P := by
  intro i a b
  rw [kn_set h0 h1 a b, h i a b]
  constructor
  · rintro (q | q)
    · exact ⟨by have := q.1; omega, q.2⟩
    · rw [q]; exact ⟨by omega, hp⟩
  · intro q
    by_cases e : i = k
    · exact Or.inr e
    · exact Or.inl ⟨by have := q.1; omega, q.2⟩
theorem rb_n {P : Int → Prop} {bv : Int64} {k : Int} (h : rbP bv k P) (hp : ¬ P k) : rbP bv (k + 1) P := by
  intro i a b
  rw [h i a b]
  constructor
  · intro q
    exact ⟨by have := q.1; omega, q.2⟩
  · intro q
    by_cases e : i = k
    · rw [e] at q; exact absurd q.2 hp
    · exact ⟨by have := q.1; omega, q.2⟩
theorem rb_0 {P : Int → Prop} : rbP (lI 0) 0 P := fun i a b => ⟨fun q => absurd q (btL_0 i), fun q => by have := q.1; omega⟩
theorem rb_e {P : Int → Prop} {bv : Int64} (h : rbP bv 64 P) : ∀ i, 0 ≤ i → i < 64 → (btL bv i ↔ P i) := fun i a b => (h i a b).trans ⟨fun q => q.2, fun q => ⟨b, q⟩⟩
