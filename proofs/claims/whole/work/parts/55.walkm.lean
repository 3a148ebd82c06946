/-! offsets and points of segments -/
/-- the greatest k that is 0 or for which (2 k - 1)^2 sq is at most (2 H al)^2 -/
def isOff (H al sq k : Int) : Prop := 0 ≤ k ∧ (k = 0 ∨ (2 * k - 1) * (2 * k - 1) * sq ≤ (2 * H * al) * (2 * H * al)) ∧ (2 * H * al) * (2 * H * al) < (2 * k + 1) * (2 * k + 1) * sq
theorem isOff_uniq {H al sq j k : Int} (hs : 0 < sq) (hj : isOff H al sq j) (hk : isOff H al sq k) : j = k := by
  obtain ⟨a1, a2, a3⟩ := hj
  obtain ⟨b1, b2, b3⟩ := hk
  rcases Int.lt_trichotomy j k with q | q | q
  · have h1 := sq_le (a := 2 * j + 1) (b := 2 * k - 1) (by omega) (by omega)
    have h2 := Int.mul_le_mul_of_nonneg_right h1 (show 0 ≤ sq by omega)
    omega
  · exact q
  · have h1 := sq_le (a := 2 * k + 1) (b := 2 * j - 1) (by omega) (by omega)
    have h2 := Int.mul_le_mul_of_nonneg_right h1 (show 0 ≤ sq by omega)
    omega
theorem isOff_root {H al sq z : Int} (hs : 0 < sq) (hz : isRt ((2 * H * al) * (2 * H * al) / sq) z) : isOff H al sq ((z + 1) / 2) := by
  unfold isOff
  generalize (2 * H * al) * (2 * H * al) = w at hz ⊢
  obtain ⟨h0, h1, h2⟩ := hz
  have hd := ediv_sp (a := w) hs
  refine ⟨by omega, ?_, ?_⟩
  · by_cases e : (z + 1) / 2 = 0
    · exact Or.inl e
    · refine Or.inr ?_
      have k1 := sq_le (a := 2 * ((z + 1) / 2) - 1) (b := z) (by omega) (by omega)
      have k2 := Int.mul_le_mul_of_nonneg_right (show (2 * ((z + 1) / 2) - 1) * (2 * ((z + 1) / 2) - 1) ≤ w / sq by omega) (show 0 ≤ sq by omega)
      have k3 := Int.mul_comm (w / sq) sq
      omega
  · have k1 := sq_le (a := z + 1) (b := 2 * ((z + 1) / 2) + 1) (by omega) (by omega)
    have k2 := Int.mul_le_mul_of_nonneg_right (show w / sq + 1 ≤ (2 * ((z + 1) / 2) + 1) * (2 * ((z + 1) / 2) + 1) by omega) (show 0 ≤ sq by omega)
    rw [Int.add_mul, Int.one_mul, Int.mul_comm (w / sq) sq] at k2
    omega
theorem isOff_le {H al sq k : Int} (hH : 0 ≤ H) (hs : 0 < sq) (ha : al * al ≤ sq) (hk : isOff H al sq k) : k ≤ H := by
  obtain ⟨h0, h1, h2⟩ := hk
  rcases h1 with h1 | h1
  · omega
  · rcases Int.lt_or_le H k with q | q
    · have k1 := sq_le (a := 2 * H + 1) (b := 2 * k - 1) (by omega) (by omega)
      have k2 := Int.mul_le_mul_of_nonneg_right k1 (show 0 ≤ sq by omega)
      have k3 : (2 * H * al) * (2 * H * al) = (2 * H) * (2 * H) * (al * al) := by grind
      have k4 := Int.mul_le_mul_of_nonneg_left ha (sq_nn (2 * H))
      have k5 : (2 * H + 1) * (2 * H + 1) * sq = (2 * H) * (2 * H) * sq + (4 * H + 1) * sq := by grind
      have k6 := Int.mul_pos (show 0 < 4 * H + 1 by omega) hs
      omega
    · exact q
theorem off_dom {H al sq : Int} (hH : 0 ≤ H ∧ H ≤ 32768) (hs : 0 < sq) (ha : al * al ≤ sq) : 0 ≤ (2 * H * al) * (2 * H * al) / sq ∧ (2 * H * al) * (2 * H * al) / sq < 281474976710656 := by
  have k3 : (2 * H * al) * (2 * H * al) = (2 * H) * (2 * H) * (al * al) := by grind
  have k4 := Int.mul_le_mul_of_nonneg_left ha (sq_nn (2 * H))
  have k5 := sq_le (a := 2 * H) (b := 65536) (by omega) (by omega)
  have k6 := Int.mul_le_mul_of_nonneg_right k5 (show 0 ≤ sq by omega)
  constructor
  · exact Int.ediv_nonneg (sq_nn _) (by omega)
  · apply (Int.ediv_lt_iff_lt_mul hs).mpr
    omega
/-- the FINE coordinate at t of a LENGTH l -/
def fnA (l fr al t : Int) : Int := 16 * fr + (32 * al * t + l) / (2 * l)
theorem fnA_bd {l fr al t : Int} (hl : 0 < l) (h0 : 0 ≤ t) (h1 : t ≤ l) : (0 ≤ al → 0 ≤ fnA l fr al t - 16 * fr ∧ fnA l fr al t - 16 * fr ≤ 16 * al) ∧ (al ≤ 0 → 16 * al ≤ fnA l fr al t - 16 * fr ∧ fnA l fr al t - 16 * fr ≤ 0) := by
  unfold fnA
  have hp : (0 : Int) < 2 * l := by omega
  have e0 : 32 * al * t = 32 * (al * t) := by grind
  rw [e0]
  constructor
  · intro ha
    have k1 := Int.mul_nonneg ha h0
    have k2 := Int.mul_le_mul_of_nonneg_left h1 ha
    have q1 := Int.ediv_nonneg (show 0 ≤ 32 * (al * t) + l by omega) (show 0 ≤ 2 * l by omega)
    have q2 : (32 * (al * t) + l) / (2 * l) < 16 * al + 1 := (Int.ediv_lt_iff_lt_mul hp).mpr (by
      have : (16 * al + 1) * (2 * l) = 32 * (al * l) + 2 * l := by grind
      omega)
    omega
  · intro ha
    have k1 := Int.mul_le_mul_of_nonpos_left (a := al) ha h1
    have k2 : al * t ≤ 0 := by
      have := Int.mul_le_mul_of_nonpos_left (a := al) ha h0
      omega
    have q1 : 16 * al ≤ (32 * (al * t) + l) / (2 * l) := (Int.le_ediv_iff_mul_le hp).mpr (by
      have : 16 * al * (2 * l) = 32 * (al * l) := by grind
      omega)
    have q2 : (32 * (al * t) + l) / (2 * l) < 1 := (Int.ediv_lt_iff_lt_mul hp).mpr (by omega)
    omega
