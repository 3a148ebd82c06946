/-! how many bits are set: Long.bitCount's way, by bytes -/
def pcN : Nat → Nat → Nat
  | 0, _ => 0
  | k + 1, n => n % 2 + pcN k (n / 2)
theorem pc_and8 (b h m M : Nat) (hb : b < 256) (hm : m < 256) : (b + 256 * h) &&& (m + 256 * M) = (b &&& m) + 256 * (h &&& M) := by
  have e1 : ((b + 256 * h) &&& (m + 256 * M)) % 2 ^ 8 = (b + 256 * h) % 2 ^ 8 &&& (m + 256 * M) % 2 ^ 8 := Nat.and_mod_two_pow
  have e2 : ((b + 256 * h) &&& (m + 256 * M)) / 2 ^ 8 = (b + 256 * h) / 2 ^ 8 &&& (m + 256 * M) / 2 ^ 8 := Nat.and_div_two_pow
  have b1 : (b + 256 * h) % 2 ^ 8 = b := by omega
  have b2 : (b + 256 * h) / 2 ^ 8 = h := by omega
  have m1 : (m + 256 * M) % 2 ^ 8 = m := by omega
  have m2 : (m + 256 * M) / 2 ^ 8 = M := by omega
  rw [b1, m1] at e1
  rw [b2, m2] at e2
  have h3 := Nat.mod_add_div ((b + 256 * h) &&& (m + 256 * M)) (2 ^ 8)
  rw [e1, e2] at h3
  omega
theorem pc_t1 : ∀ b, b < 256 → ∀ t, t < 2 → ((b / 2 + 128 * t) &&& 85) = (b / 2 &&& 85) ∧ (b / 2 &&& 85) ≤ b := by decide +kernel
theorem pc_t2 : ∀ b, b < 256 → ∀ t, t < 4 → ((b / 4 + 64 * t) &&& 51) = (b / 4 &&& 51) := by decide +kernel
def pc_1 (n M : Nat) : Nat := n - ((n / 2) &&& M)
def pc_2 (n M : Nat) : Nat := (n &&& M) + ((n / 4) &&& M)
def pc_3 (n M : Nat) : Nat := (n + n / 16) &&& M
theorem pc_le (h M : Nat) : ((h / 2) &&& M) ≤ h := Nat.le_trans Nat.and_le_left (Nat.div_le_self _ _)
theorem pc_1s (b h M : Nat) (hb : b < 256) : pc_1 (b + 256 * h) (85 + 256 * M) = pc_1 b 85 + 256 * pc_1 h M := by
  unfold pc_1
  have e1 : (b + 256 * h) / 2 = (b / 2 + 128 * (h % 2)) + 256 * (h / 2) := by omega
  rw [e1, pc_and8 _ _ _ _ (by omega) (by decide)]
  have h1 := pc_t1 b hb (h % 2) (by omega)
  rw [h1.1]
  have h2 := pc_le h M
  have h3 := h1.2
  omega
theorem pc_1lt : ∀ b, b < 256 → pc_1 b 85 < 256 := by decide +kernel
theorem pc_2s (b h M : Nat) (hb : b < 256) : pc_2 (b + 256 * h) (51 + 256 * M) = pc_2 b 51 + 256 * pc_2 h M := by
  unfold pc_2
  have e1 : (b + 256 * h) / 4 = (b / 4 + 64 * (h % 4)) + 256 * (h / 4) := by omega
  rw [e1, pc_and8 b h 51 M hb (by decide), pc_and8 (b / 4 + 64 * (h % 4)) (h / 4) 51 M (by omega) (by decide), pc_t2 b hb (h % 4) (by omega)]
  omega
theorem pc_12 : ∀ b, b < 256 → pc_2 (pc_1 b 85) 51 ≤ 68 ∧ pc_2 (pc_1 b 85) 51 % 16 ≤ 4 ∧ pc_3 (pc_2 (pc_1 b 85) 51) 15 = pcN 8 b ∧ pcN 8 b ≤ 8 := by decide +kernel
theorem pc_t3 : ∀ y, y ≤ 68 → ∀ t, t < 5 → ((y + y / 16 + 16 * t) &&& 15) = ((y + y / 16) &&& 15) := by decide +kernel
theorem pc_3s (y h M : Nat) (hy : y ≤ 68) (hh : h % 16 ≤ 4) : pc_3 (y + 256 * h) (15 + 256 * M) = pc_3 y 15 + 256 * pc_3 h M := by
  unfold pc_3
  have e1 : (y + 256 * h) + (y + 256 * h) / 16 = (y + y / 16 + 16 * (h % 16)) + 256 * (h + h / 16) := by omega
  rw [e1, pc_and8 _ _ _ _ (by omega) (by decide), pc_t3 y hy (h % 16) (by omega)]
/-- the masks, by so many bytes -/
def pc_m (m : Nat) : Nat → Nat
  | 0 => 0
  | k + 1 => m + 256 * pc_m m k
/-- all three steps, byte by byte -/
def pc_by : Nat → Nat → Nat
  | 0, _ => 0
  | k + 1, n => pcN 8 (n % 256) + 256 * pc_by k (n / 256)
theorem pc_all : ∀ k n, n < 256 ^ k → pc_2 (pc_1 n (pc_m 85 k)) (pc_m 51 k) % 16 ≤ 4 ∧ pc_3 (pc_2 (pc_1 n (pc_m 85 k)) (pc_m 51 k)) (pc_m 15 k) = pc_by k n := by
  intro k
  induction k with
  | zero =>
    intro n hn
    have : n = 0 := by simp at hn; omega
    subst this
    decide
  | succ k ih =>
    intro n hn
    have hq : n / 256 < 256 ^ k := by
      have : n < 256 * 256 ^ k := by rw [Nat.pow_succ] at hn; omega
      omega
    obtain ⟨i1, i2⟩ := ih (n / 256) hq
    have hb : n % 256 < 256 := by omega
    have en : n = n % 256 + 256 * (n / 256) := by omega
    have e1 : pc_1 n (pc_m 85 (k + 1)) = pc_1 (n % 256) 85 + 256 * pc_1 (n / 256) (pc_m 85 k) := by
      rw [← pc_1s _ _ _ hb, ← en]; rfl
    have e2 : pc_2 (pc_1 n (pc_m 85 (k + 1))) (pc_m 51 (k + 1)) = pc_2 (pc_1 (n % 256) 85) 51 + 256 * pc_2 (pc_1 (n / 256) (pc_m 85 k)) (pc_m 51 k) := by
      rw [e1, ← pc_2s _ _ _ (pc_1lt _ hb)]; rfl
    obtain ⟨t1, t2, t3, t4⟩ := pc_12 (n % 256) hb
    rw [e2]
    refine ⟨by omega, ?_⟩
    show pc_3 _ (15 + 256 * pc_m 15 k) = _
    rw [pc_3s _ _ _ t1 i1, t3, i2]
    rfl
theorem pcN_8 (k b h : Nat) (hb : b < 256) : pcN (k + 8) (b + 256 * h) = pcN 8 b + pcN k h := by
  simp only [pcN]
  have e : (b + 256 * h) / 2 / 2 / 2 / 2 / 2 / 2 / 2 / 2 = h := by omega
  rw [e]
  omega
theorem pc_8 (n : Nat) (hn : n < 2 ^ 64) : ∃ t0 t1 t2 t3 t4 t5 t6 t7 : Nat, t0 ≤ 8 ∧ t1 ≤ 8 ∧ t2 ≤ 8 ∧ t3 ≤ 8 ∧ t4 ≤ 8 ∧ t5 ≤ 8 ∧ t6 ≤ 8 ∧ t7 ≤ 8 ∧ pc_by 8 n = t0 + 256 * (t1 + 256 * (t2 + 256 * (t3 + 256 * (t4 + 256 * (t5 + 256 * (t6 + 256 * t7)))))) ∧ pcN 64 n = t0 + t1 + t2 + t3 + t4 + t5 + t6 + t7 := by
  have h8 : ∀ b, pcN 8 (b % 256) ≤ 8 := fun b => (pc_12 (b % 256) (by omega)).2.2.2
  have st : ∀ k m, pcN (k + 8) m = pcN 8 (m % 256) + pcN k (m / 256) := fun k m => by
    have h := pcN_8 k (m % 256) (m / 256) (by omega)
    rw [show m % 256 + 256 * (m / 256) = m by omega] at h
    exact h
  refine ⟨_, _, _, _, _, _, _, _, h8 n, h8 (n / 256), h8 (n / 256 / 256), h8 (n / 256 / 256 / 256), h8 (n / 256 / 256 / 256 / 256), h8 (n / 256 / 256 / 256 / 256 / 256), h8 (n / 256 / 256 / 256 / 256 / 256 / 256), h8 (n / 256 / 256 / 256 / 256 / 256 / 256 / 256), ?_, ?_⟩
  · simp only [pc_by, Nat.mul_zero, Nat.add_zero]
  · have s0 : pcN 64 (n) = pcN 8 ((n) % 256) + pcN 56 ((n) / 256) := st 56 _
    have s1 : pcN 56 (n / 256) = pcN 8 ((n / 256) % 256) + pcN 48 ((n / 256) / 256) := st 48 _
    have s2 : pcN 48 (n / 256 / 256) = pcN 8 ((n / 256 / 256) % 256) + pcN 40 ((n / 256 / 256) / 256) := st 40 _
    have s3 : pcN 40 (n / 256 / 256 / 256) = pcN 8 ((n / 256 / 256 / 256) % 256) + pcN 32 ((n / 256 / 256 / 256) / 256) := st 32 _
    have s4 : pcN 32 (n / 256 / 256 / 256 / 256) = pcN 8 ((n / 256 / 256 / 256 / 256) % 256) + pcN 24 ((n / 256 / 256 / 256 / 256) / 256) := st 24 _
    have s5 : pcN 24 (n / 256 / 256 / 256 / 256 / 256) = pcN 8 ((n / 256 / 256 / 256 / 256 / 256) % 256) + pcN 16 ((n / 256 / 256 / 256 / 256 / 256) / 256) := st 16 _
    have s6 : pcN 16 (n / 256 / 256 / 256 / 256 / 256 / 256) = pcN 8 ((n / 256 / 256 / 256 / 256 / 256 / 256) % 256) + pcN 8 ((n / 256 / 256 / 256 / 256 / 256 / 256) / 256) := st 8 _
    have s7 : pcN 8 (n / 256 / 256 / 256 / 256 / 256 / 256 / 256) = pcN 8 ((n / 256 / 256 / 256 / 256 / 256 / 256 / 256) % 256) + pcN 0 ((n / 256 / 256 / 256 / 256 / 256 / 256 / 256) / 256) := st 0 _
    have s8 : ∀ m, pcN 0 m = 0 := fun _ => rfl
    have s9 := s8 ((n / 256 / 256 / 256 / 256 / 256 / 256 / 256) / 256)
    omega
