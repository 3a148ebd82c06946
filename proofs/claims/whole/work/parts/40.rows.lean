/-! rows of bits: what they hold beside what they held -/
def rwI (g rw : Nat → Int64) (hi wd : Int) (Q : Int → Prop) (In : Int → Int → Prop) : Prop := ∀ i : Nat, (i : Int) < hi → ∀ k : Int, 0 ≤ k → k < 64 → (btL (g i) k ↔ btL (rw i) k ∨ (Q i ∧ k < wd ∧ In k i))
def wrP (wr : Int64) (wd : Int) : Prop := ∀ k : Int, 0 ≤ k → k < 64 → (btL wr k ↔ k < wd)
theorem rwI_0 {rw : Nat → Int64} {hi wd : Int} {Q : Int → Prop} {In : Int → Int → Prop} (h : ∀ i : Nat, (i : Int) < hi → ∀ k : Int, 0 ≤ k → k < wd → Q i → ¬ In k i) : rwI rw rw hi wd Q In := fun i hi k k0 k1 => ⟨fun h9 => Or.inl h9, fun h9 => h9.elim id (fun q => absurd q.2.2 (h i hi k k0 q.2.1 q.1))⟩
theorem rwI_Q {g rw : Nat → Int64} {hi wd : Int} {Q Q2 : Int → Prop} {In : Int → Int → Prop} (h : rwI g rw hi wd Q In) (hq : ∀ i : Int, 0 ≤ i → i < hi → ((∃ k, 0 ≤ k ∧ k < wd ∧ In k i) → (Q i ↔ Q2 i))) : rwI g rw hi wd Q2 In := by
  intro i h1 k k0 k1
  rw [h i h1 k k0 k1]
  constructor
  · rintro (a | ⟨a, b, d⟩)
    · exact Or.inl a
    · exact Or.inr ⟨(hq i (by omega) h1 ⟨k, k0, b, d⟩).mp a, b, d⟩
  · rintro (a | ⟨a, b, d⟩)
    · exact Or.inl a
    · exact Or.inr ⟨(hq i (by omega) h1 ⟨k, k0, b, d⟩).mpr a, b, d⟩
theorem rwI_full {g rw : Nat → Int64} {wr : Int64} {hi wd j : Int} {Q : Int → Prop} {In : Int → Int → Prop} (h : rwI g rw hi wd Q In) (hw : wrP wr wd) (j0 : 0 ≤ j) (he : g j.toNat = wr) : rwI g rw hi wd (fun i => Q i ∨ i = j) In := by
  intro i h1 k k0 k1
  by_cases e : (i : Int) = j
  · have e2 : i = j.toNat := by omega
    constructor
    · intro a
      rcases (h i h1 k k0 k1).mp a with q | q
      · exact Or.inl q
      · exact Or.inr ⟨Or.inl q.1, q.2⟩
    · rintro (a | ⟨_, b, _⟩)
      · exact (h i h1 k k0 k1).mpr (Or.inl a)
      · rw [e2, he]; exact (hw k k0 k1).mpr b
  · rw [h i h1 k k0 k1]
    constructor
    · rintro (a | ⟨a, b⟩)
      · exact Or.inl a
      · exact Or.inr ⟨Or.inl a, b⟩
    · rintro (a | ⟨a | a, b⟩)
      · exact Or.inl a
      · exact Or.inr ⟨a, b⟩
      · exact absurd a e
theorem rwI_or {g rw : Nat → Int64} {r : Int64} {hi wd j : Int} {Q : Int → Prop} {In : Int → Int → Prop} (h : rwI g rw hi wd Q In) (j0 : 0 ≤ j) (hr : ∀ k : Int, 0 ≤ k → k < 64 → (btL r k ↔ k < wd ∧ In k j)) : rwI (vp_updL g j.toNat (g j.toNat ||| r)) rw hi wd (fun i => Q i ∨ i = j) In := by
  intro i h1 k k0 k1
  by_cases e : (i : Int) = j
  · have e2 : i = j.toNat := by omega
    rw [e2]
    have e3 : vp_updL g j.toNat (g j.toNat ||| r) j.toNat = (g j.toNat ||| r) := if_pos rfl
    rw [e3, btL_or, hr k k0 k1]
    have h2 := h j.toNat (by omega) k k0 k1
    rw [h2, Int.toNat_of_nonneg j0]
    constructor
    · rintro ((a | ⟨a, b⟩) | a)
      · exact Or.inl a
      · exact Or.inr ⟨Or.inl a, b⟩
      · exact Or.inr ⟨Or.inr rfl, a⟩
    · rintro (a | ⟨a, b⟩)
      · exact Or.inl (Or.inl a)
      · exact Or.inr b
  · have e3 : vp_updL g j.toNat (g j.toNat ||| r) i = g i := if_neg (by omega)
    rw [e3, h i h1 k k0 k1]
    constructor
    · rintro (a | ⟨a, b⟩)
      · exact Or.inl a
      · exact Or.inr ⟨Or.inl a, b⟩
    · rintro (a | ⟨a | a, b⟩)
      · exact Or.inl a
      · exact Or.inr ⟨a, b⟩
      · exact absurd a e
theorem row_lo {sy v ty j : Int} (ht : 0 < ty) : -((sy - v) / ty) ≤ j ↔ v ≤ sy + j * ty := by
  have h := Int.le_ediv_iff_mul_le (a := -j) (b := sy - v) ht
  rw [Int.neg_mul] at h
  omega
theorem row_hi {sy v ty j : Int} (ht : 0 < ty) : j ≤ (v - sy) / ty ↔ sy + j * ty ≤ v := by
  have h := Int.le_ediv_iff_mul_le (a := j) (b := v - sy) ht
  omega
/-- which turn a polygon has -/
def trn (xs ys : Int → Int) (nc : Int) : Int := if shoe xs ys nc nc.toNat < 0 then -1 else 1
theorem i_3 {P : Int → Prop} : (∀ i, 0 ≤ i → i < 3 → P i) ↔ P 0 ∧ P 1 ∧ P 2 := by
  constructor
  · intro h; exact ⟨h 0 (by decide) (by decide), h 1 (by decide) (by decide), h 2 (by decide) (by decide)⟩
  · rintro ⟨a, b, d⟩ i h0 h1
    rcases (show i = 0 ∨ i = 1 ∨ i = 2 by omega) with rfl | rfl | rfl <;> assumption
theorem i_4 {P : Int → Prop} : (∀ i, 0 ≤ i → i < 4 → P i) ↔ P 0 ∧ P 1 ∧ P 2 ∧ P 3 := by
  constructor
  · intro h; exact ⟨h 0 (by decide) (by decide), h 1 (by decide) (by decide), h 2 (by decide) (by decide), h 3 (by decide) (by decide)⟩
  · rintro ⟨a, b, d, e⟩ i h0 h1
    rcases (show i = 0 ∨ i = 1 ∨ i = 2 ∨ i = 3 by omega) with rfl | rfl | rfl | rfl <;> assumption
theorem trn_in {xs ys : Int → Int} {nc x y : Int} (hn : nc = 3 ∨ nc = 4) : (∀ i, 0 ≤ i → i < nc → 0 ≤ trn xs ys nc * side xs ys nc i x y) ↔ inPg xs ys nc x y := by
  unfold inPg trn
  rcases hn with rfl | rfl
  · have h := shoe_3 xs ys x y
    have e : (3 : Int).toNat = 3 := rfl
    rw [e, i_3, i_3, i_3]
    split <;> omega
  · have h := shoe_4 xs ys x y
    have e : (4 : Int).toNat = 4 := rfl
    rw [e, i_4, i_4, i_4]
    split <;> omega
theorem trn_1 (xs ys : Int → Int) (nc : Int) : trn xs ys nc = 1 ∨ trn xs ys nc = -1 := by unfold trn; split <;> simp
