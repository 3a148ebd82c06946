/-! the reference's numbers: halving intervals, floors, the phase -/
theorem bis_mid {lo hi : Int} (h0 : 0 ≤ lo) (h : lo < hi) : lo < (lo + hi + 1) / 2 ∧ (lo + hi + 1) / 2 ≤ hi := by omega
/-- where the halving for an offset stands -/
def bisO (sq w lo hi : Int) : Prop := 0 ≤ lo ∧ lo ≤ hi ∧ hi ≤ 40000 ∧ (lo = 0 ∨ (2 * lo - 1) * (2 * lo - 1) * sq ≤ w) ∧ w < (2 * hi + 1) * (2 * hi + 1) * sq
theorem bisO_0 {H al sq : Int} (hH : 0 ≤ H ∧ H ≤ 32768) (hs : 0 < sq) (ha : al * al ≤ sq) : bisO sq ((2 * H * al) * (2 * H * al)) 0 40000 := by
  refine ⟨by omega, by omega, by omega, Or.inl rfl, ?_⟩
  have k3 : (2 * H * al) * (2 * H * al) = (2 * H) * (2 * H) * (al * al) := by grind
  have k4 := Int.mul_le_mul_of_nonneg_left ha (sq_nn (2 * H))
  have k5 := sq_le (a := 2 * H) (b := 65536) (by omega) (by omega)
  have k6 := Int.mul_le_mul_of_nonneg_right k5 (show 0 ≤ sq by omega)
  omega
theorem bisO_end {H al sq k : Int} (h : bisO sq ((2 * H * al) * (2 * H * al)) k k) : isOff H al sq k := ⟨h.1, h.2.2.2.1, h.2.2.2.2⟩
theorem bisO_hi {sq w lo hi m : Int} (h : bisO sq w lo hi) (hm : lo < m ∧ m ≤ hi) (hq : (2 * m - 1) * (2 * m - 1) * sq ≤ w) : bisO sq w m hi := ⟨by have := h.1; omega, hm.2, h.2.2.1, Or.inr hq, h.2.2.2.2⟩
theorem bisO_lo {sq w lo hi m : Int} (h : bisO sq w lo hi) (hm : lo < m ∧ m ≤ hi) (hq : ¬ (2 * m - 1) * (2 * m - 1) * sq ≤ w) : bisO sq w lo (m - 1) := ⟨h.1, by omega, by have := h.2.2.1; omega, h.2.2.2.1, by rw [show 2 * (m - 1) + 1 = 2 * m - 1 by omega]; omega⟩
theorem bis_sq {sq m : Int} (hs : 0 < sq ∧ sq ≤ 600000000) (hm : 0 < m ∧ m ≤ 40000) : (1 ≤ 2 * m - 1 ∧ 2 * m - 1 ≤ 79999) ∧ (0 ≤ (2 * m - 1) * (2 * m - 1) ∧ (2 * m - 1) * (2 * m - 1) ≤ 6399840001) ∧ (0 ≤ (2 * m - 1) * (2 * m - 1) * sq ∧ (2 * m - 1) * (2 * m - 1) * sq ≤ 3839904000600000000) := by
  have a := sq_nn (2 * m - 1)
  have b := sq_le (a := 2 * m - 1) (b := 79999) (by omega) (by omega)
  have d := Int.mul_le_mul b hs.2 (by omega) (show (0 : Int) ≤ 79999 * 79999 by decide)
  have e := Int.mul_nonneg a (show 0 ≤ sq by omega)
  exact ⟨by omega, by omega, by omega⟩
/-- where the halving for a root stands -/
def bisR (v lo hi : Int) : Prop := 0 ≤ lo ∧ lo ≤ hi ∧ hi ≤ 16777216 ∧ lo * lo ≤ v ∧ v < (hi + 1) * (hi + 1)
theorem bisR_0 {v : Int} (h0 : 0 ≤ v) (h1 : v < 281474976710656) : bisR v 0 16777216 := ⟨by omega, by omega, by omega, by omega, by omega⟩
theorem bisR_end {v k : Int} (h : bisR v k k) : isRt v k := ⟨h.1, h.2.2.2.1, h.2.2.2.2⟩
theorem bisR_hi {v lo hi m : Int} (h : bisR v lo hi) (hm : lo < m ∧ m ≤ hi) (hq : m * m ≤ v) : bisR v m hi := ⟨by have := h.1; omega, hm.2, h.2.2.1, hq, h.2.2.2.2⟩
theorem bisR_lo {v lo hi m : Int} (h : bisR v lo hi) (hm : lo < m ∧ m ≤ hi) (hq : ¬ m * m ≤ v) : bisR v lo (m - 1) := ⟨h.1, by omega, by have := h.2.2.1; omega, h.2.2.2.1, by rw [show m - 1 + 1 = m by omega]; omega⟩
theorem bisR_sq {m : Int} (hm : 0 < m ∧ m ≤ 16777216) : 0 ≤ m * m ∧ m * m ≤ 281474976710656 := by
  have a := sq_nn m
  have b := sq_le (a := m) (b := 16777216) (by omega) (by omega)
  omega
/-- floors -/
theorem flo_neg {a b : Int} (hb : 0 < b) (h : a.tmod b < 0) : a.tdiv b - 1 = a / b := by
  rw [Int.tdiv_eq_ediv]
  have h2 : ¬ 0 ≤ a := fun q => by have := Int.tmod_nonneg b q; omega
  have h3 : ¬ b ∣ a := fun q => by rw [Int.tmod_eq_zero_of_dvd q] at h; omega
  rw [if_neg (by intro q; rcases q with q | q; exact h2 q; exact h3 q), Int.sign_eq_one_of_pos hb]
  omega
theorem flo_pos {a b : Int} (hb : 0 < b) (h : ¬ a.tmod b < 0) : a.tdiv b = a / b := by
  rw [Int.tdiv_eq_ediv]
  by_cases h2 : 0 ≤ a
  · rw [if_pos (Or.inl h2)]; omega
  · have h3 : b ∣ a := by
      have h4 : (-a).tmod b = -(a.tmod b) := Int.neg_tmod a b
      have h5 := Int.tmod_nonneg b (show 0 ≤ -a by omega)
      exact Int.dvd_of_tmod_eq_zero (by omega)
    rw [if_pos (Or.inr h3)]; omega
/-- a whole segment -/
theorem fnA_0 {l fr al : Int} (hl : 0 < l) : fnA l fr al 0 = 16 * fr := by
  unfold fnA
  rw [Int.mul_zero, Int.zero_add]
  have : l / (2 * l) = 0 := Int.ediv_eq_zero_of_lt (by omega) (by omega)
  omega
theorem fnA_l {l fr al : Int} (hl : 0 < l) : fnA l fr al l = 16 * (fr + al) := by
  unfold fnA
  have e : 32 * al * l + l = l + 2 * l * (16 * al) := by grind
  rw [e, Int.add_mul_ediv_left _ _ (by omega)]
  have : l / (2 * l) = 0 := Int.ediv_eq_zero_of_lt (by omega) (by omega)
  omega
/-- so many dashes on -/
def nxN (nd : Int) : Nat → Int → Int
  | 0, d => d
  | n + 1, d => nxN nd n (nxt nd d)
def flN : Nat → Int → Int
  | 0, w => w
  | n + 1, w => flN n (1 - w)
theorem phM_all {nd : Int} {ln : Int → Int} (hln : ∀ j, 0 ≤ j → j < nd → 0 ≤ ln j ∧ ln j ≤ 8192) : ∀ (n : Nat) (o d w : Int), 0 ≤ d → d < nd → cons nd ln n d ≤ o → phM nd ln n o d w = (o - cons nd ln n d, nxN nd n d, flN n w) := by
  intro n
  induction n with
  | zero => intro o d w _ _ _; show (o, d, w) = (o - 0, d, w); rw [Int.sub_zero]
  | succ n ih =>
    intro o d w h0 h1 h2
    have h2 : ln d + cons nd ln n (nxt nd d) ≤ o := h2
    have hn : 0 ≤ nxt nd d ∧ nxt nd d < nd := by unfold nxt; split <;> omega
    have hc := cons_nn hln n (nxt nd d) hn.1 hn.2
    have e : phM nd ln (n + 1) o d w = phM nd ln n (o - ln d) (nxt nd d) (1 - w) := if_pos (by omega)
    rw [e, ih _ _ _ hn.1 hn.2 (by omega)]
    show (o - ln d - cons nd ln n (nxt nd d), _, _) = (o - (ln d + cons nd ln n (nxt nd d)), _, _)
    rw [Int.sub_sub]
    rfl
theorem nxN_add (nd : Int) : ∀ (n m : Nat) (d : Int), nxN nd (n + m) d = nxN nd m (nxN nd n d) := by
  intro n
  induction n with
  | zero => intro m d; rw [Nat.zero_add]; rfl
  | succ n ih => intro m d; rw [show n + 1 + m = (n + m) + 1 by omega]; exact ih m (nxt nd d)
theorem nxN_up {nd : Int} : ∀ (n : Nat) (d : Int), 0 ≤ d → d + n < nd → nxN nd n d = d + n := by
  intro n
  induction n with
  | zero => intro d _ _; show d = d + ((0 : Nat) : Int); omega
  | succ n ih =>
    intro d h0 h1
    show nxN nd n (nxt nd d) = _
    have e : nxt nd d = d + 1 := by unfold nxt; rw [if_pos (by omega)]
    rw [e, ih (d + 1) (by omega) (by omega)]
    omega
theorem nxN_r {q : Nat} (hq : 0 < q) : nxN q q 0 = 0 := by
  obtain ⟨r, rfl⟩ : ∃ r, q = r + 1 := ⟨q - 1, by omega⟩
  rw [nxN_add _ r 1, nxN_up r 0 (by omega) (by omega)]
  show nxt _ _ = 0
  unfold nxt
  rw [if_neg (by omega)]
theorem flN_2 : ∀ (n : Nat) (w : Int), flN (n + n) w = w := by
  intro n
  induction n with
  | zero => intro w; rfl
  | succ n ih =>
    intro w
    rw [show n + 1 + (n + 1) = (n + n) + 1 + 1 by omega]
    show flN (n + n) (1 - (1 - w)) = w
    rw [show 1 - (1 - w) = w by omega]
    exact ih w
/-- two rounds of dashes -/
theorem phM_2 {ln : Int → Int} {q m : Nat} {o : Int} (hq : 0 < q) (hln : ∀ j, 0 ≤ j → j < (q : Int) → 0 ≤ ln j ∧ ln j ≤ 8192) (ho : 2 * sm ln q ≤ o) : phM q ln (q + q + m) o 0 1 = phM q ln m (o - 2 * sm ln q) 0 1 := by
  have e1 := cons_round (ln := ln) (q := q) hq q
  have e2 := cons_round (ln := ln) (q := q) hq 0
  rw [Nat.add_zero] at e2
  have e4 : cons q ln 0 0 = 0 := rfl
  rw [phM_sum (q + q) m o 0 1 (fun _ _ _ _ _ => True.intro), phM_all hln (q + q) o 0 1 (Int.le_refl _) (by omega) (by omega), nxN_add, nxN_r hq, nxN_r hq, flN_2]
  show phM q ln m (o - cons q ln (q + q) 0) 0 1 = _
  rw [show o - cons q ln (q + q) 0 = o - 2 * sm ln q by omega]
theorem phM_k {ln : Int → Int} {q m : Nat} (hq : 0 < q) (hln : ∀ j, 0 ≤ j → j < (q : Int) → 0 ≤ ln j ∧ ln j ≤ 8192) (hs : 0 < sm ln q) : ∀ (k : Nat) (o : Int), 2 * sm ln q * k ≤ o → phM q ln (k * (q + q) + m) o 0 1 = phM q ln m (o - 2 * sm ln q * k) 0 1 := by
  intro k
  induction k with
  | zero => intro o _; rw [Nat.zero_mul, Nat.zero_add]; simp
  | succ k ih =>
    intro o ho
    have e0 : 2 * sm ln q * ((k + 1 : Nat) : Int) = 2 * sm ln q * k + 2 * sm ln q := by
      rw [show ((k + 1 : Nat) : Int) = (k : Int) + 1 by omega, Int.mul_add, Int.mul_one]
    have e1 := Int.mul_nonneg (show 0 ≤ 2 * sm ln q by omega) (Int.natCast_nonneg k)
    rw [show (k + 1) * (q + q) + m = q + q + (k * (q + q) + m) by rw [Nat.add_mul]; omega, phM_2 hq hln (by omega), ih _ (by omega), e0]
    congr 1
    omega
/-- the phase as it is told, and within two rounds -/
theorem ph_long {nd ph wl : Int} {ln : Int → Int} (hln : ∀ j, 0 ≤ j → j < nd → 0 ≤ ln j ∧ ln j ≤ 8192) (hnd : 0 < nd ∧ nd ≤ 8) (hw : wl = sm ln nd.toNat) (hp : 0 < wl) (h0 : 0 ≤ ph) : ∃ n : Nat, phM nd ln n ph 0 1 = phM nd ln 16 (ph % (2 * wl)) 0 1 := by
  obtain ⟨q, rfl⟩ : ∃ q : Nat, nd = q := ⟨nd.toNat, by omega⟩
  rw [Int.toNat_natCast] at hw
  subst hw
  refine ⟨(ph / (2 * sm ln q)).toNat * (q + q) + 16, ?_⟩
  have hd := Int.mul_ediv_add_emod ph (2 * sm ln q)
  have hr := Int.emod_nonneg ph (show 2 * sm ln q ≠ 0 by omega)
  have hq := Int.ediv_nonneg h0 (show 0 ≤ 2 * sm ln q by omega)
  have hc : (((ph / (2 * sm ln q)).toNat : Nat) : Int) = ph / (2 * sm ln q) := by omega
  rw [phM_k (by omega) hln hp _ _ (by rw [hc]; omega), hc]
  congr 1
  omega
/-- a shift by twelve -/
theorem shr12 {v : Int} (h : bI v) : iI v >>> (iI 12 &&& 31) = iI (v / 4096) := by
  apply Int32.toInt_inj.mp
  have hb : bI (v / 4096) := by unfold bI at *; omega
  rw [iI_toInt hb]
  show (iI v >>> (iI 12 &&& 31)).toBitVec.toInt = _
  rw [Int32.toBitVec_shiftRight]
  have : ((iI 12 &&& 31).toBitVec.smod 32) = 12#32 := by decide
  rw [this]
  show ((iI v).toBitVec.sshiftRight 12).toInt = _
  rw [BitVec.toInt_sshiftRight]
  show (iI v).toInt >>> 12 = _
  rw [iI_toInt h, Int.shiftRight_eq_div_pow]
  rfl
theorem tmod_bd (a b : Int) : -(a.natAbs : Int) ≤ a.tmod b ∧ a.tmod b ≤ (a.natAbs : Int) := by
  have h : (a.tmod b).natAbs ≤ a.natAbs := by
    rw [Int.natAbs_tmod]
    exact Nat.mod_le _ _
  omega
