/-! bits of a long -/
def btL (x : Int64) (k : Int) : Prop := x.toBitVec.getLsbD k.toNat = true
theorem btL_ext {x y : Int64} (h : ∀ k : Int, 0 ≤ k → k < 64 → (btL x k ↔ btL y k)) : x = y := by
  apply Int64.toBitVec_inj.mp
  apply BitVec.eq_of_getLsbD_eq
  intro i hi
  have h1 := h (i : Int) (by omega) (by omega)
  unfold btL at h1
  rw [Int.toNat_natCast] at h1
  cases hx : x.toBitVec.getLsbD i <;> cases hy : y.toBitVec.getLsbD i <;> simp [hx, hy] at h1 ⊢
theorem btL_or (x y : Int64) (k : Int) : btL (x ||| y) k ↔ btL x k ∨ btL y k := by
  unfold btL
  rw [Int64.toBitVec_or, BitVec.getLsbD_or, Bool.or_eq_true]
theorem btL_and (x y : Int64) (k : Int) : btL (x &&& y) k ↔ btL x k ∧ btL y k := by
  unfold btL
  rw [Int64.toBitVec_and, BitVec.getLsbD_and, Bool.and_eq_true]
theorem btL_0 (k : Int) : ¬ btL (lI 0) k := by
  unfold btL
  rw [show (lI 0).toBitVec = 0#64 from rfl]
  simp
theorem bt_shl : ∀ a, a < 64 → ∀ k, k < 64 → ((lI (-1)) <<< ((iI ((a : Nat) : Int)).toInt64 &&& 63)).toBitVec.getLsbD k = decide (a ≤ k) := by decide +kernel
theorem bt_shr : ∀ b, b < 64 → ∀ k, k < 64 → (((lI (-1)).toUInt64 >>> ((iI (63 - ((b : Nat) : Int))).toInt64.toUInt64 &&& Int64.toUInt64 63)).toInt64).toBitVec.getLsbD k = decide (k ≤ b) := by decide +kernel
theorem bt_ft {a b : Int} (h0 : 0 ≤ a) (hab : a ≤ b) (hb : b ≤ 63) (k : Int) (k0 : 0 ≤ k) (k1 : k < 64) : btL ((lI (-1)) <<< ((iI a).toInt64 &&& 63) &&& ((lI (-1)).toUInt64 >>> ((iI (63 - b)).toInt64.toUInt64 &&& Int64.toUInt64 63)).toInt64) k ↔ a ≤ k ∧ k ≤ b := by
  rw [btL_and]
  unfold btL
  have e1 := bt_shl a.toNat (by omega) k.toNat (by omega)
  have e2 := bt_shr b.toNat (by omega) k.toNat (by omega)
  rw [Int.toNat_of_nonneg h0] at e1
  rw [Int.toNat_of_nonneg (by omega)] at e2
  rw [e1, e2, decide_eq_true_eq, decide_eq_true_eq]
  omega
