/-! every piece is as it must be -/
def rnA (l al t : Int) : Int := (32 * al * t + l) / (2 * l)
theorem fnA_r (l fr al t : Int) : fnA l fr al t = 16 * fr + rnA l al t := rfl
theorem rn_0 {l al : Int} (hl : 0 < l) : rnA l al 0 = 0 := by
  unfold rnA
  rw [Int.mul_zero, Int.zero_add]
  exact Int.ediv_eq_zero_of_lt (by omega) (by omega)
theorem rn_l {l al : Int} (hl : 0 < l) : rnA l al l = 16 * al := by
  unfold rnA
  rw [show 32 * al * l + l = l + (2 * l) * (16 * al) by grind]
  rw [Int.add_mul_ediv_left _ _ (by omega)]
  rw [Int.ediv_eq_zero_of_lt (by omega) (by omega)]
  omega
theorem rn_mono {l al t q : Int} (hl : 0 < l) (h : al * t ≤ al * q) : rnA l al t ≤ rnA l al q := by
  unfold rnA
  apply Int.ediv_le_ediv (by omega)
  have e1 : 32 * al * t = 32 * (al * t) := by grind
  have e2 : 32 * al * q = 32 * (al * q) := by grind
  omega
theorem rn_iff {l al t z : Int} (hl : 0 < l) : rnA l al t = z ↔ (2 * l) * z ≤ 32 * (al * t) + l ∧ 32 * (al * t) + l < (2 * l) * z + 2 * l := by
  unfold rnA
  rw [show 32 * al * t = 32 * (al * t) by grind]
  have h1 := ediv_sp (a := 32 * (al * t) + l) (b := 2 * l) (by omega)
  generalize (32 * (al * t) + l) / (2 * l) = w at *
  constructor
  · rintro rfl
    omega
  · intro h
    rcases Int.lt_trichotomy w z with c | c | c
    · have := Int.mul_le_mul_of_nonneg_left (show w + 1 ≤ z by omega) (show 0 ≤ 2 * l by omega)
      rw [Int.mul_add] at this
      omega
    · exact c
    · have := Int.mul_le_mul_of_nonneg_left (show z + 1 ≤ w by omega) (show 0 ≤ 2 * l by omega)
      rw [Int.mul_add] at this
      omega
theorem abs_mul_lt {a b s l : Int} (hs : 0 ≤ s) (h : b * b < a * a) (h1 : -l ≤ 32 * (a * s)) (h2 : 32 * (a * s) ≤ l) (hl : 0 < l) : -l < 32 * (b * s) ∧ 32 * (b * s) < l := by
  rcases Int.lt_or_le 0 s with p | p
  · have hb : (-(a.natAbs : Int) < b) ∧ b < a.natAbs := by
      have e : (a.natAbs : Int) * a.natAbs = a * a := Int.natAbs_mul_self
      constructor
      · rcases Int.lt_or_le (-(a.natAbs : Int)) b with q | q
        · exact q
        · have := sq_le (a := (a.natAbs : Int)) (b := -b) (by omega) (by omega)
          rw [Int.neg_mul_neg] at this
          omega
      · rcases Int.lt_or_le b a.natAbs with q | q
        · exact q
        · have := sq_le (a := (a.natAbs : Int)) (b := b) (by omega) q
          omega
    have k1 := Int.mul_lt_mul_of_pos_right hb.1 p
    have k2 := Int.mul_lt_mul_of_pos_right hb.2 p
    rcases Int.natAbs_eq a with e | e
    · rw [← e] at k1 k2
      rw [Int.neg_mul] at k1
      omega
    · have e2 : (a.natAbs : Int) = -a := by omega
      rw [e2, Int.neg_mul] at k2
      rw [e2, Int.neg_neg] at k1
      omega
  · have : s = 0 := by omega
    subst this
    rw [Int.mul_zero]
    omega
/-- where the greater difference is not moved, the smaller one isn't -/
theorem ndg {l dx dy t q : Int} (hl : 0 < l) (hll : l * l ≤ 65536 * (dx * dx + dy * dy)) (h0 : 0 ≤ t) (h1 : t ≤ q) (h2 : q ≤ l) (hc : t = 0 ∨ q = l ∨ q = t ∨ 256 ≤ q - t) (hd : dy * dy < dx * dx) (hA : rnA l dx q = rnA l dx t) : rnA l dy q = rnA l dy t := by
  rcases hc with rfl | rfl | rfl | hc
  · rw [rn_0 hl] at hA ⊢
    have h := (rn_iff hl).mp hA
    have k := abs_mul_lt (a := dx) (b := dy) (s := q) (l := l) h1 hd (by omega) (by omega) hl
    exact (rn_iff hl).mpr (by omega)
  · rw [rn_l hl] at hA ⊢
    have h := (rn_iff hl).mp hA.symm
    have e1 : (2 * q) * (16 * dx) = 32 * (dx * q) := by grind
    have e3 : dx * (q - t) = dx * q - dx * t := Int.mul_sub _ _ _
    have k := abs_mul_lt (a := dx) (b := dy) (s := q - t) (l := q) (by omega) hd (by omega) (by omega) hl
    have e2 : (2 * q) * (16 * dy) = 32 * (dy * q) := by grind
    have e4 : dy * (q - t) = dy * q - dy * t := Int.mul_sub _ _ _
    exact ((rn_iff hl).mpr (by omega)).symm
  · rfl
  · exfalso
    have g1 := (rn_iff (z := rnA l dx t) hl).mp hA
    have g2 := (rn_iff (z := rnA l dx t) hl).mp rfl
    have e3 : dx * (q - t) = dx * q - dx * t := Int.mul_sub _ _ _
    have hx : dx ≠ 0 := by
      rintro rfl
      have := sq_nn dy
      omega
    -- l is at most 4096 |dx|
    have e : (dx.natAbs : Int) * dx.natAbs = dx * dx := Int.natAbs_mul_self
    have hb0 := sq_nn dy
    have hla : l ≤ 4096 * dx.natAbs := by
      rcases Int.lt_or_le (4096 * (dx.natAbs : Int)) l with w | w
      · have := sq_le (a := 4096 * (dx.natAbs : Int)) (b := l) (by omega) (by omega)
        have e5 : 4096 * (dx.natAbs : Int) * (4096 * dx.natAbs) = 16777216 * ((dx.natAbs : Int) * dx.natAbs) := by grind
        omega
      · exact w
    have k := Int.mul_le_mul_of_nonneg_left hc (show (0 : Int) ≤ dx.natAbs by omega)
    rcases Int.natAbs_eq dx with e6 | e6
    · rw [← e6] at k hla
      omega
    · have e7 : (dx.natAbs : Int) = -dx := by omega
      have e8 : -dx * (q - t) = -(dx * (q - t)) := Int.neg_mul _ _
      rw [e7, e8] at k
      rw [e7] at hla
      omega
/-- the offset of the greater difference is not 0 -/
theorem off_pos {H dx dy v : Int} (hH : 8 ≤ H) (h : ¬ (dx = 0 ∧ dy = 0)) (hd : dy * dy ≤ dx * dx) (hv : isOff H dx (dx * dx + dy * dy) v) : 1 ≤ v := by
  obtain ⟨h0, -, h2⟩ := hv
  rcases Int.lt_or_le 0 v with q | q
  · omega
  · have e : v = 0 := by omega
    subst e
    exfalso
    have hp := sq_pos h
    have e1 : 2 * H * dx * (2 * H * dx) = (2 * H) * (2 * H) * (dx * dx) := by grind
    have e2 := sq_le (a := 16) (b := 2 * H) (by omega) (by omega)
    have e3 := Int.mul_le_mul_of_nonneg_right e2 (sq_nn dx)
    have e4 : (2 * 0 + 1) * (2 * 0 + 1) * (dx * dx + dy * dy) = dx * dx + dy * dy := by grind
    omega
theorem sgn_pos {A v dx : Int} (hA : (0 ≤ dx → 0 ≤ A) ∧ (dx ≤ 0 → A ≤ 0)) (hv : 0 ≤ v) : A * (-(if dx < 0 then -v else v)) ≤ 0 ∧ (¬ A = 0 → 1 ≤ v → A * (-(if dx < 0 then -v else v)) < 0) := by
  by_cases h : dx < 0
  · rw [if_pos h]
    have h1 := hA.2 (by omega)
    rw [Int.neg_neg]
    constructor
    · have := Int.mul_le_mul_of_nonneg_right h1 hv
      omega
    · intro n v1
      exact Int.mul_neg_of_neg_of_pos (by omega) (by omega)
  · rw [if_neg h]
    have h1 := hA.1 (by omega)
    rw [Int.mul_neg]
    constructor
    · have := Int.mul_nonneg h1 hv
      omega
    · intro n v1
      have := Int.mul_pos (show 0 < A by omega) (show 0 < v by omega)
      omega
theorem rn_sg {l al t q : Int} (hl : 0 < l) (h1 : t ≤ q) : (0 ≤ al → 0 ≤ rnA l al q - rnA l al t) ∧ (al ≤ 0 → rnA l al q - rnA l al t ≤ 0) := by
  constructor
  · intro h
    have := rn_mono hl (Int.mul_le_mul_of_nonneg_left h1 h)
    omega
  · intro h
    have := rn_mono (t := q) (q := t) hl (Int.mul_le_mul_of_nonpos_left h h1)
    omega
/-- a body has an area -/
theorem ndeg {H l dx dy ox oy t q : Int} (hH : 8 ≤ H) (h : ¬ (dx = 0 ∧ dy = 0)) (ho : sgO H dx dy ox oy) (hl : 0 < l) (hll : l * l ≤ 65536 * (dx * dx + dy * dy)) (h0 : 0 ≤ t) (h1 : t ≤ q) (h2 : q ≤ l) (hc : t = 0 ∨ q = l ∨ q = t ∨ 256 ≤ q - t) (hn : ¬ (rnA l dx t = rnA l dx q ∧ rnA l dy t = rnA l dy q)) : ¬ (rnA l dx q - rnA l dx t) * oy - (rnA l dy q - rnA l dy t) * ox = 0 := by
  obtain ⟨u, v, hu, hv, -, -, e1, e2⟩ := ho
  have sx := sgn_pos (rn_sg (al := dx) hl h1) hv.1
  have sy := sgn_pos (rn_sg (al := dy) hl h1) hu.1
  rw [e1, e2]
  have hu2 : isOff H dy (dy * dy + dx * dx) u := by rw [Int.add_comm]; exact hu
  have h' : ¬ (dy = 0 ∧ dx = 0) := fun w => h ⟨w.2, w.1⟩
  have e3 : (rnA l dy q - rnA l dy t) * (-(if dy < 0 then -u else u)) = -((rnA l dy q - rnA l dy t) * (if dy < 0 then -u else u)) := Int.mul_neg _ _
  rw [e3] at sy
  rcases Int.lt_trichotomy (dy * dy) (dx * dx) with c | c | c
  · have v1 := off_pos hH h (by omega) hv
    have : ¬ rnA l dx q - rnA l dx t = 0 := fun w => hn ⟨by omega, by have := ndg hl hll h0 h1 h2 hc c (by omega); omega⟩
    have := sx.2 this v1
    omega
  · have v1 := off_pos hH h (by omega) hv
    have u1 := off_pos hH h' (by omega) hu2
    by_cases w : rnA l dx q - rnA l dx t = 0
    · have := sy.2 (fun w2 => hn ⟨by omega, by omega⟩) u1
      omega
    · have := sx.2 w v1
      omega
  · have u1 := off_pos hH h' (by omega) hu2
    have : ¬ rnA l dy q - rnA l dy t = 0 := fun w => hn ⟨by have := ndg (dx := dy) (dy := dx) hl (by rw [Int.add_comm]; exact hll) h0 h1 h2 hc c (by omega); omega, by omega⟩
    have := sy.2 this u1
    omega
theorem off_nz {H dx dy ox oy : Int} (hH : 8 ≤ H) (h : ¬ (dx = 0 ∧ dy = 0)) (ho : sgO H dx dy ox oy) : ¬ (ox = 0 ∧ oy = 0) := by
  obtain ⟨u, v, hu, hv, -, -, e1, e2⟩ := ho
  rintro ⟨w1, w2⟩
  rw [e1] at w1
  rw [e2] at w2
  have hu2 : isOff H dy (dy * dy + dx * dx) u := by rw [Int.add_comm]; exact hu
  have h' : ¬ (dy = 0 ∧ dx = 0) := fun w => h ⟨w.2, w.1⟩
  rcases Int.le_total (dy * dy) (dx * dx) with c | c
  · have v1 := off_pos hH h c hv
    split at w2 <;> omega
  · have u1 := off_pos hH h' c hu2
    split at w1 <;> omega
theorem sgO_ok {H dx dy : Int} (hH : 0 ≤ H) (h : ¬ (dx = 0 ∧ dy = 0)) : sgO H dx dy (sgX H dx dy) (sgY H dx dy) := by
  have hp := sq_pos h
  have a := sq_nn dx
  have b := sq_nn dy
  have h1 := ofI_ok (H := H) (al := dy) hp
  have h2 := ofI_ok (H := H) (al := dx) hp
  exact ⟨_, _, h1, h2, isOff_le hH hp (by omega) h1, isOff_le hH hp (by omega) h2, rfl, rfl⟩
