/-! all the shapes of a piece, and painting them one by one -/
def shC (f1 f2 f3 f4 f5 f6 f7 f8 : Int → Int) (cp jn lm hf n x y : Int) : Prop :=
  bodyP (f1 n) (f2 n) (f3 n) (f4 n) (f5 n) (f6 n) x y ∨ capsP cp (f7 n) (f8 n) (f1 n) (f2 n) (f3 n) (f4 n) (f5 n) (f6 n) hf x y ∨ (0 ≤ f7 n ∧ joinP jn (f1 n) (f2 n) (f5 (f7 n)) (f6 (f7 n)) (f5 n) (f6 n) hf x y) ∨ (jn = 0 ∧ 0 ≤ f7 n ∧ mitP (f1 n) (f2 n) (f5 (f7 n)) (f6 (f7 n)) (f5 n) (f6 n) hf lm x y)
/-- a piece as it must be -/
def pcV (f1 f2 f3 f4 f5 f6 f7 f8 : Int → Int) (hf hd n : Int) : Prop :=
  pcB (f1 n) (f2 n) (f3 n) (f4 n) (f5 n) (f6 n) hf ∧ (0 ≤ f8 n ∧ f8 n ≤ 2) ∧ (-1 ≤ f7 n ∧ f7 n < hd) ∧ (¬ (f1 n = f3 n ∧ f2 n = f4 n) → ¬ (f3 n - f1 n) * f6 n - (f4 n - f2 n) * f5 n = 0) ∧ (¬ f8 n = 2 → ¬ (f5 n = 0 ∧ f6 n = 0))
theorem near_out {a b c d H sx tx wd sy ty hi k i : Int} (hgx : grP sx tx wd) (hgy : grP sy ty hi) (k0 : 0 ≤ k) (k1 : k < wd) (i0 : 0 ≤ i) (i1 : i < hi)
    (hn : ¬ (sx ≤ max a c + 2 * H ∧ min a c - 2 * H ≤ sx + (wd - 1) * tx ∧ sy ≤ max b d + 2 * H ∧ min b d - 2 * H ≤ sy + (hi - 1) * ty)) : outB (sx + k * tx) (sy + i * ty) (min a c - 2 * H) (max a c + 2 * H) (min b d - 2 * H) (max b d + 2 * H) := by
  unfold grP at *
  unfold outB
  have e1 := Int.mul_nonneg k0 (show 0 ≤ tx by omega)
  have e2 := Int.mul_nonneg i0 (show 0 ≤ ty by omega)
  have e3 := Int.mul_le_mul_of_nonneg_right (show k ≤ wd - 1 by omega) (show 0 ≤ tx by omega)
  have e4 := Int.mul_le_mul_of_nonneg_right (show i ≤ hi - 1 by omega) (show 0 ≤ ty by omega)
  omega
/-- rows hold nothing beyond their columns -/
def subW (g : Nat → Int64) (hi wd : Int) : Prop := ∀ i : Nat, (i : Int) < hi → ∀ k : Int, 0 ≤ k → k < 64 → btL (g i) k → k < wd
theorem subW_s {g rw : Nat → Int64} {hi wd : Int} {Q : Int → Prop} {In : Int → Int → Prop} (h : subW rw hi wd) (hr : rwI g rw hi wd Q In) : subW g hi wd := by
  intro i a k k0 k1 hb
  rcases (hr i a k k0 k1).mp hb with q | q
  · exact h i a k k0 k1 q
  · exact q.2.1
theorem full_s {g rw : Nat → Int64} {wr : Int64} {hi wd fr : Int} {Q : Int → Prop} {In : Int → Int → Prop} (hw : wrP wr wd) (h : subW rw hi wd) (hr : rwI g rw hi wd Q In) (hfr : fr ≤ hi) (hf : ∀ j : Nat, (j : Int) < fr → rw j = wr) : ∀ j : Nat, (j : Int) < fr → g j = wr := by
  intro j hj
  apply btL_ext
  intro k k0 k1
  rw [hw k k0 k1]
  constructor
  · exact subW_s h hr j (by omega) k k0 k1
  · intro hk
    exact (hr j (by omega) k k0 k1).mpr (Or.inl (by rw [hf j hj]; exact (hw k k0 k1).mpr hk))
theorem all_full {g rw : Nat → Int64} {wr : Int64} {hi wd : Int} {In In2 : Int → Int → Prop} (hw : wrP wr wd) (hr : rwI g rw hi wd (fun _ => True) In) (hf : ∀ j : Nat, (j : Int) < hi → g j = wr) (hs : ∀ k i, In k i → In2 k i) : rwI g rw hi wd (fun _ => True) In2 := by
  intro i a k k0 k1
  constructor
  · intro h
    rcases (hr i a k k0 k1).mp h with q | q
    · exact Or.inl q
    · exact Or.inr ⟨trivial, q.2.1, hs _ _ q.2.2⟩
  · rintro (h | h)
    · exact (hr i a k k0 k1).mpr (Or.inl h)
    · rw [hf i a]; exact (hw k k0 k1).mpr h.2.1
theorem ex_s {P : Int → Prop} {n : Int} (h0 : 0 ≤ n) : (∃ j, 0 ≤ j ∧ j < n + 1 ∧ P j) ↔ (∃ j, 0 ≤ j ∧ j < n ∧ P j) ∨ P n := by
  constructor
  · rintro ⟨j, a, b, d⟩
    by_cases e : j = n
    · exact Or.inr (e ▸ d)
    · exact Or.inl ⟨j, a, by omega, d⟩
  · rintro (⟨j, a, b, d⟩ | d)
    · exact ⟨j, a, by omega, d⟩
    · exact ⟨n, h0, by omega, d⟩
