/-! bits of what is known; counts of points -/
theorem kn_amt : ∀ r, r < 64 → ((iI ((r : Nat) : Int)).toInt64.toUInt64 &&& Int64.toUInt64 63).toNat = r := by decide +kernel
theorem kn_one : ∀ r, r < 64 → ∀ k, k < 64 → ((lI 1) <<< ((iI ((r : Nat) : Int)).toInt64 &&& 63)).toBitVec.getLsbD k = decide (k = r) := by decide +kernel
theorem kn_lo : ∀ k, k < 64 → (lI 1).toBitVec.getLsbD k = decide (k = 0) := by decide +kernel
theorem kn_m1 : ∀ k, k < 64 → (lI (-1)).toBitVec.getLsbD k = true := by decide +kernel
theorem kn_shr (x : Int64) (r : Nat) (hr : r < 64) (k : Nat) : ((x.toUInt64 >>> ((iI ((r : Nat) : Int)).toInt64.toUInt64 &&& Int64.toUInt64 63)).toInt64).toBitVec.getLsbD k = x.toBitVec.getLsbD (r + k) := by
  have h := kn_amt r hr
  generalize ((iI ((r : Nat) : Int)).toInt64.toUInt64 &&& Int64.toUInt64 63) = n at h
  subst h
  show (x.toUInt64 >>> n).toBitVec.getLsbD k = _
  rw [UInt64.toBitVec_shiftRight]
  simp [BitVec.getLsbD_ushiftRight, Nat.mod_eq_of_lt hr]
theorem kn_test {x : Int64} {r : Int} (h0 : 0 ≤ r) (h1 : r < 64) : ((x.toUInt64 >>> ((iI r).toInt64.toUInt64 &&& Int64.toUInt64 63)).toInt64 &&& lI 1) = lI 0 ↔ ¬ btL x r := by
  obtain ⟨q, rfl⟩ : ∃ q : Nat, r = q := ⟨r.toNat, by omega⟩
  have key : ∀ k : Int, 0 ≤ k → k < 64 → (btL ((x.toUInt64 >>> ((iI (q : Int)).toInt64.toUInt64 &&& Int64.toUInt64 63)).toInt64 &&& lI 1) k ↔ k = 0 ∧ btL x q) := by
    intro k k0 k1
    rw [btL_and]
    unfold btL
    rw [kn_shr x q (by omega), kn_lo k.toNat (by omega), decide_eq_true_eq, Int.toNat_natCast]
    constructor
    · rintro ⟨a, b⟩
      rw [b, Nat.add_zero] at a
      exact ⟨by omega, a⟩
    · rintro ⟨a, b⟩
      subst a
      exact ⟨b, rfl⟩
  constructor
  · intro h hb
    have h2 := (key 0 (by omega) (by omega)).mpr ⟨rfl, hb⟩
    rw [h] at h2
    exact btL_0 0 h2
  · intro h
    apply btL_ext
    intro k k0 k1
    rw [key k k0 k1]
    exact ⟨fun q => absurd q.2 h, fun q => absurd q (btL_0 k)⟩
theorem kn_set {x : Int64} {r k : Int} (h0 : 0 ≤ r) (h1 : r < 64) (k0 : 0 ≤ k) (k1 : k < 64) : btL (x ||| lI 1 <<< ((iI r).toInt64 &&& 63)) k ↔ btL x k ∨ k = r := by
  obtain ⟨q, rfl⟩ : ∃ q : Nat, r = q := ⟨r.toNat, by omega⟩
  rw [btL_or]
  have e : btL (lI 1 <<< ((iI (q : Int)).toInt64 &&& 63)) k ↔ k = q := by
    unfold btL
    rw [kn_one q (by omega) k.toNat (by omega), decide_eq_true_eq]
    omega
  rw [e]
theorem kn_all {k : Int} (k0 : 0 ≤ k) (k1 : k < 64) : btL (lI (-1)) k := kn_m1 k.toNat (by omega)
/-- 1 or 0 -/
noncomputable def bz (P : Prop) : Int := @ite _ P (Classical.propDecidable P) 1 0
theorem bz_1 {P : Prop} (h : P) : bz P = 1 := by unfold bz; exact if_pos h
theorem bz_0 {P : Prop} (h : ¬ P) : bz P = 0 := by unfold bz; exact if_neg h
theorem bz_cg {P Q : Prop} (h : P ↔ Q) : bz P = bz Q := by
  by_cases q : P
  · rw [bz_1 q, bz_1 (h.mp q)]
  · rw [bz_0 q, bz_0 (fun z => q (h.mpr z))]
theorem bz_bd (P : Prop) : 0 ≤ bz P ∧ bz P ≤ 1 := by
  by_cases q : P
  · rw [bz_1 q]; decide
  · rw [bz_0 q]; decide
noncomputable def cnt (P : Int → Prop) : Nat → Int
  | 0 => 0
  | n + 1 => cnt P n + bz (P n)
theorem cnt_bd (P : Int → Prop) : ∀ n : Nat, 0 ≤ cnt P n ∧ cnt P n ≤ n := by
  intro n
  induction n with
  | zero => exact ⟨Int.le_refl _, Int.le_refl _⟩
  | succ n ih =>
    have := bz_bd (P n)
    show 0 ≤ cnt P n + bz (P n) ∧ cnt P n + bz (P n) ≤ ((n + 1 : Nat) : Int)
    omega
theorem cnt_cg {P Q : Int → Prop} : ∀ n : Nat, (∀ k : Int, 0 ≤ k → k < n → (P k ↔ Q k)) → cnt P n = cnt Q n := by
  intro n
  induction n with
  | zero => intro _; rfl
  | succ n ih =>
    intro h
    show cnt P n + bz (P n) = cnt Q n + bz (Q n)
    rw [ih (fun k a b => h k a (by omega)), bz_cg (h n (by omega) (by omega))]
theorem cnt_add (P : Int → Prop) (m : Nat) : ∀ n : Nat, cnt P (m + n) = cnt P m + cnt (fun k => P (m + k)) n := by
  intro n
  induction n with
  | zero => show cnt P m = cnt P m + 0; omega
  | succ n ih =>
    show cnt P (m + n) + bz (P ((m + n : Nat) : Int)) = cnt P m + (cnt (fun k => P (m + k)) n + bz (P (m + (n : Int))))
    rw [ih, show ((m + n : Nat) : Int) = (m : Int) + n by omega]
    omega
/-- rows of counts -/
noncomputable def cntR (P : Int → Int → Prop) (w : Nat) : Nat → Int
  | 0 => 0
  | n + 1 => cntR P w n + cnt (fun x => P x n) w
theorem cntR_bd (P : Int → Int → Prop) (w : Nat) : ∀ n : Nat, 0 ≤ cntR P w n ∧ cntR P w n ≤ (w : Int) * n := by
  intro n
  induction n with
  | zero => exact ⟨Int.le_refl _, by show (0 : Int) ≤ (w : Int) * ((0 : Nat) : Int); simp⟩
  | succ n ih =>
    have := cnt_bd (fun x => P x n) w
    have e : (w : Int) * ((n + 1 : Nat) : Int) = (w : Int) * n + w := by rw [show ((n + 1 : Nat) : Int) = (n : Int) + 1 by omega, Int.mul_add, Int.mul_one]
    show 0 ≤ cntR P w n + cnt (fun x => P x n) w ∧ cntR P w n + cnt (fun x => P x n) w ≤ (w : Int) * ((n + 1 : Nat) : Int)
    omega
theorem cnt_rows {P : Int → Int → Prop} {w : Nat} (hw : 0 < w) : ∀ n : Nat, cnt (fun k => P (k % w) (k / w)) (w * n) = cntR P w n := by
  intro n
  induction n with
  | zero => rfl
  | succ n ih =>
    rw [Nat.mul_succ, cnt_add, ih]
    show _ = cntR P w n + cnt (fun x => P x n) w
    congr 1
    refine cnt_cg w (fun k a b => ?_)
    have e1 : (((w * n : Nat) : Int) + k) % w = k := by
      rw [show ((w * n : Nat) : Int) = (w : Int) * n from Int.natCast_mul w n, Int.add_comm, Int.add_mul_emod_self_left]
      exact Int.emod_eq_of_lt a b
    have e2 : (((w * n : Nat) : Int) + k) / w = n := by
      rw [show ((w * n : Nat) : Int) = (w : Int) * n from Int.natCast_mul w n, Int.add_comm, Int.add_mul_ediv_left _ _ (by omega), Int.ediv_eq_zero_of_lt a b]
      omega
    rw [e1, e2]
theorem cntR_cg {P Q : Int → Int → Prop} {w : Nat} : ∀ n : Nat, (∀ x r : Int, 0 ≤ x → x < w → 0 ≤ r → r < n → (P x r ↔ Q x r)) → cntR P w n = cntR Q w n := by
  intro n
  induction n with
  | zero => intro _; rfl
  | succ n ih =>
    intro h
    show cntR P w n + cnt (fun x => P x n) w = cntR Q w n + cnt (fun x => Q x n) w
    rw [ih (fun x r a b c d => h x r a b c (by omega)), cnt_cg w (fun x a b => h x n a b (by omega) (by omega))]
theorem pcN_bits : ∀ (m n : Nat), (pcN m n : Int) = cnt (fun k => n.testBit k.toNat = true) m := by
  intro m
  induction m with
  | zero => intro n; rfl
  | succ m ih =>
    intro n
    show ((n % 2 + pcN m (n / 2) : Nat) : Int) = _
    rw [Int.natCast_add, ih, show m + 1 = 1 + m by omega, cnt_add]
    have e1 : cnt (fun k => n.testBit k.toNat = true) 1 = ((n % 2 : Nat) : Int) := by
      show 0 + bz (n.testBit (Int.toNat ((0 : Nat) : Int)) = true) = _
      rw [show Int.toNat ((0 : Nat) : Int) = 0 from rfl, Nat.testBit_zero]
      by_cases q : n % 2 = 1
      · rw [bz_1 (by simp [q]), q]; rfl
      · rw [bz_0 (by simp [q]), show n % 2 = 0 by omega]; rfl
    rw [e1]
    congr 1
    refine cnt_cg m (fun k a b => ?_)
    show (n / 2).testBit k.toNat = true ↔ n.testBit (Int.toNat (((1 : Nat) : Int) + k)) = true
    rw [show Int.toNat (((1 : Nat) : Int) + k) = k.toNat + 1 by omega, Nat.testBit_succ]
theorem pcN_btL (x : Int64) : (pcN 64 (uN x) : Int) = cnt (fun k => btL x k) 64 := by
  rw [pcN_bits]
  refine cnt_cg 64 (fun k a b => ?_)
  unfold btL
  rw [← BitVec.testBit_toNat]
  exact Iff.rfl
