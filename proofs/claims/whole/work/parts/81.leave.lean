/-! points that are left: the segments stay the same -/
def sgC (w : SW) (lx ly : Int → Int) : Nat → Int → CS → CS
  | 0, _, c => c
  | n + 1, k, c => sgC w lx ly n (k + 1) (sgT w (lx k) (ly k) (lx (k + 1)) (ly (k + 1)) c)
def sgD (w : SW) (lx ly : Int → Int) (m : Int) : Nat → Int → CS → CS
  | 0, _, c => c
  | n + 1, k, c => sgD w lx ly m n (k + 1) (sgT w (lx k) (ly k) (lx (nxt m k)) (ly (nxt m k)) c)
theorem sgs_snoc (w : SW) (fv bv : Int) : ∀ (n : Nat) (i : Int) (c : CS), sgs w fv bv (n + 1) i c = sgT w (w.px (i + n - 1)) (w.py (i + n - 1)) (w.px (if i + n < bv then i + n else fv)) (w.py (if i + n < bv then i + n else fv)) (sgs w fv bv n i c) := by
  intro n
  induction n with
  | zero => intro i c; show sgT _ _ _ _ _ _ = _; rw [show i + ((0 : Nat) : Int) = i by omega]; rfl
  | succ n ih =>
    intro i c
    have e : i + 1 + (n : Int) = i + ((n + 1 : Nat) : Int) := by omega
    have h := ih (i + 1) (sgT w (w.px (i - 1)) (w.py (i - 1)) (w.px (if i < bv then i else fv)) (w.py (if i < bv then i else fv)) c)
    rw [e] at h
    exact h
theorem sgC_snoc (w : SW) (lx ly : Int → Int) : ∀ (n : Nat) (k : Int) (c : CS), sgC w lx ly (n + 1) k c = sgT w (lx (k + n)) (ly (k + n)) (lx (k + n + 1)) (ly (k + n + 1)) (sgC w lx ly n k c) := by
  intro n
  induction n with
  | zero => intro k c; show sgT _ _ _ _ _ _ = _; rw [show k + ((0 : Nat) : Int) = k by omega]; rfl
  | succ n ih =>
    intro k c
    have e : k + 1 + (n : Int) = k + ((n + 1 : Nat) : Int) := by omega
    have h := ih (k + 1) (sgT w (lx k) (ly k) (lx (k + 1)) (ly (k + 1)) c)
    rw [e] at h
    exact h
theorem sgD_snoc (w : SW) (lx ly : Int → Int) (m : Int) : ∀ (n : Nat) (k : Int) (c : CS), sgD w lx ly m (n + 1) k c = sgT w (lx (k + n)) (ly (k + n)) (lx (nxt m (k + n))) (ly (nxt m (k + n))) (sgD w lx ly m n k c) := by
  intro n
  induction n with
  | zero => intro k c; show sgT _ _ _ _ _ _ = _; rw [show k + ((0 : Nat) : Int) = k by omega]; rfl
  | succ n ih =>
    intro k c
    have e : k + 1 + (n : Int) = k + ((n + 1 : Nat) : Int) := by omega
    have h := ih (k + 1) (sgT w (lx k) (ly k) (lx (nxt m k)) (ly (nxt m k)) c)
    rw [e] at h
    exact h
theorem sgC_congr {w : SW} {lx ly gx gy : Int → Int} : ∀ (n : Nat) (k : Int) (c : CS), (∀ j, k ≤ j → j ≤ k + n → gx j = lx j ∧ gy j = ly j) → sgC w gx gy n k c = sgC w lx ly n k c := by
  intro n
  induction n with
  | zero => intro k c _; rfl
  | succ n ih =>
    intro k c h
    have a := h k (by omega) (by omega)
    have b := h (k + 1) (by omega) (by omega)
    show sgC w gx gy n (k + 1) _ = sgC w lx ly n (k + 1) _
    rw [a.1, a.2, b.1, b.2]
    exact ih (k + 1) _ (fun j h1 h2 => h j (by omega) (by omega))
theorem sgC_D {w : SW} {lx ly : Int → Int} {m : Int} : ∀ (n : Nat) (k : Int) (c : CS), k + n < m → sgC w lx ly n k c = sgD w lx ly m n k c := by
  intro n
  induction n with
  | zero => intro k c _; rfl
  | succ n ih =>
    intro k c h
    have e : nxt m k = k + 1 := by unfold nxt; rw [if_pos (by omega)]
    show sgC w lx ly n (k + 1) _ = sgD w lx ly m n (k + 1) _
    rw [e]
    exact ih (k + 1) _ (by omega)
/-- what the points that are left are, behind so many points -/
def lvI (px py lx ly : Int → Int) (fv k L : Int) : Prop :=
  (k = fv ∧ L = 0) ∨ (fv < k ∧ (1 ≤ L ∧ L ≤ k - fv) ∧ (lx (L - 1) = px (k - 1) ∧ ly (L - 1) = py (k - 1)) ∧ (lx 0 = px fv ∧ ly 0 = py fv) ∧ (∀ j, 0 ≤ j → j + 1 < L → ¬ (lx (j + 1) = lx j ∧ ly (j + 1) = ly j)) ∧ (∀ j, 0 ≤ j → j < L → ∃ i, fv ≤ i ∧ i < k ∧ lx j = px i ∧ ly j = py i) ∧
    ∀ (r : Int × Int × (Int → Int) × Int × Nat) (bv : Int) (c : CS), k ≤ bv → sgs (px, py, r) fv bv (k - 1 - fv).toNat (fv + 1) c = sgC (px, py, r) lx ly (L - 1).toNat 0 c)
theorem lv_0 {px py lx ly : Int → Int} {fv : Int} : lvI px py lx ly fv fv 0 := Or.inl ⟨rfl, rfl⟩
theorem lv_L {px py lx ly : Int → Int} {fv k L : Int} (h : lvI px py lx ly fv k L) : 0 ≤ L ∧ L ≤ k - fv ∧ fv ≤ k ∧ (fv < k → 1 ≤ L) := by
  rcases h with h | ⟨h1, h2, -⟩ <;> omega
theorem lv_same {px py lx ly : Int → Int} {fv k L : Int} (h : lvI px py lx ly fv k L) (hs : 0 < L ∧ lx (L - 1) = px k ∧ ly (L - 1) = py k) : lvI px py lx ly fv (k + 1) L := by
  rcases h with ⟨h1, h2⟩ | ⟨h1, h2, h3, h4, h5, h6, h7⟩
  · omega
  · refine Or.inr ⟨by omega, by omega, ?_, h4, h5, fun j a b => ?_, fun r bv c hb => ?_⟩
    · rw [show k + 1 - 1 = k by omega]; exact hs.2
    · obtain ⟨i, i0, i1, i2⟩ := h6 j a b
      exact ⟨i, i0, by omega, i2⟩
    · have e : (k + 1 - 1 - fv).toNat = (k - 1 - fv).toNat + 1 := by omega
      have e2 : fv + 1 + (((k - 1 - fv).toNat : Nat) : Int) = k := by omega
      rw [e, sgs_snoc, e2, if_pos (by omega), h7 r bv c (by omega)]
      refine sgT_no ?_
      show px k - px (k - 1) = 0 ∧ py k - py (k - 1) = 0
      have := hs.2
      omega
theorem lv_new {px py lx ly : Int → Int} {fv k L : Int} (h : lvI px py lx ly fv k L) (hs : ¬ (0 < L ∧ lx (L - 1) = px k ∧ ly (L - 1) = py k)) : lvI px py (zup lx L (px k)) (zup ly L (py k)) fv (k + 1) (L + 1) := by
  have z1 : ∀ (f : Int → Int) (v : Int), zup f L v L = v := fun f v => if_pos rfl
  have z2 : ∀ (f : Int → Int) (v j : Int), j ≠ L → zup f L v j = f j := fun f v j q => if_neg q
  rcases h with ⟨h1, h2⟩ | ⟨h1, h2, h3, h4, h5, h6, h7⟩
  · subst h1 h2
    refine Or.inr ⟨by omega, by omega, ?_, ?_, fun j a b => by omega, fun j a b => ?_, fun r bv c hb => ?_⟩
    · rw [show (0 : Int) + 1 - 1 = 0 by omega, show k + 1 - 1 = k by omega, z1, z1]; exact ⟨rfl, rfl⟩
    · rw [z1, z1]; exact ⟨rfl, rfl⟩
    · exact ⟨k, by omega, by omega, by rw [show j = 0 by omega, z1, z1]; exact ⟨rfl, rfl⟩⟩
    · rw [show (k + 1 - 1 - k).toNat = 0 by omega]; rfl
  · refine Or.inr ⟨by omega, by omega, ?_, ?_, fun j a b => ?_, fun j a b => ?_, fun r bv c hb => ?_⟩
    · rw [show L + 1 - 1 = L by omega, show k + 1 - 1 = k by omega, z1, z1]; exact ⟨rfl, rfl⟩
    · rw [z2 _ _ _ (by omega), z2 _ _ _ (by omega)]; exact h4
    · by_cases q : j + 1 = L
      · rw [q, z1, z1, z2 _ _ _ (by omega), z2 _ _ _ (by omega), show j = L - 1 by omega]
        intro z
        exact hs ⟨by omega, z.1.symm, z.2.symm⟩
      · rw [z2 _ _ _ q, z2 _ _ _ q, z2 _ _ _ (by omega), z2 _ _ _ (by omega)]
        exact h5 j a (by omega)
    · by_cases q : j = L
      · exact ⟨k, by omega, by omega, by rw [q, z1, z1]; exact ⟨rfl, rfl⟩⟩
      · obtain ⟨i, i0, i1, i2⟩ := h6 j a (by omega)
        exact ⟨i, i0, by omega, by rw [z2 _ _ _ q, z2 _ _ _ q]; exact i2⟩
    · have e : (k + 1 - 1 - fv).toNat = (k - 1 - fv).toNat + 1 := by omega
      have e2 : fv + 1 + (((k - 1 - fv).toNat : Nat) : Int) = k := by omega
      have e3 : (L + 1 - 1).toNat = (L - 1).toNat + 1 := by omega
      have e4 : (0 : Int) + (((L - 1).toNat : Nat) : Int) = L - 1 := by omega
      rw [e, sgs_snoc, e2, if_pos (by omega), h7 r bv c (by omega), e3, sgC_snoc, e4, show L - 1 + 1 = L by omega, z1, z1, z2 _ _ _ (by omega), z2 _ _ _ (by omega), h3.1, h3.2]
      congr 1
      exact (sgC_congr _ _ _ (fun j a b => ⟨z2 _ _ _ (by omega), z2 _ _ _ (by omega)⟩)).symm
/-- all the points are seen: how many are left, and which segments there are -/
def lvE (px py lx ly : Int → Int) (fv bv shv m : Int) : Prop :=
  1 ≤ m ∧ m ≤ bv - fv ∧ (lx 0 = px fv ∧ ly 0 = py fv) ∧ (∀ j, 0 ≤ j → j < m → ∃ i, fv ≤ i ∧ i < bv ∧ lx j = px i ∧ ly j = py i) ∧
  (∀ k, 0 ≤ k → k < (if shv = 1 then m else m - 1) → 1 < m → ¬ (lx (nxt m k) - lx k = 0 ∧ ly (nxt m k) - ly k = 0)) ∧
  (m = 1 → ∀ (r : Int × Int × (Int → Int) × Int × Nat) (c : CS), sgs (px, py, r) fv bv (sbL bv shv - fv).toNat (fv + 1) c = c) ∧
  (1 < m → ∀ (r : Int × Int × (Int → Int) × Int × Nat) (c : CS), sgs (px, py, r) fv bv (sbL bv shv - fv).toNat (fv + 1) c = sgD (px, py, r) lx ly m (if shv = 1 then m else m - 1).toNat 0 c)
theorem lv_open {px py lx ly : Int → Int} {fv bv shv L : Int} (h : lvI px py lx ly fv bv L) (hb : fv < bv) (hs : ¬ shv = 1) : lvE px py lx ly fv bv shv L := by
  rcases h with ⟨h1, h2⟩ | ⟨h1, h2, h3, h4, h5, h6, h7⟩
  · omega
  · have el : sbL bv shv - fv = bv - 1 - fv := by unfold sbL; rw [if_neg hs]
    refine ⟨by omega, by omega, h4, h6, fun k a b q => ?_, fun q r c => ?_, fun q r c => ?_⟩
    · rw [if_neg hs] at b
      have e : nxt L k = k + 1 := by unfold nxt; rw [if_pos (by omega)]
      rw [e]
      have := h5 k a (by omega)
      omega
    · rw [el, h7 r bv c (Int.le_refl _), q]; rfl
    · rw [el, h7 r bv c (Int.le_refl _), if_neg hs]
      exact sgC_D _ _ _ (by omega)
theorem lv_shut {px py lx ly : Int → Int} {fv bv shv L : Int} (h : lvI px py lx ly fv bv L) (hb : fv < bv) (hs : shv = 1) (hc : ¬ (1 < L ∧ lx (L - 1) = lx 0 ∧ ly (L - 1) = ly 0)) : lvE px py lx ly fv bv shv L := by
  rcases h with ⟨h1, h2⟩ | ⟨h1, h2, h3, h4, h5, h6, h7⟩
  · omega
  · have el : (sbL bv shv - fv).toNat = (bv - 1 - fv).toNat + 1 := by unfold sbL; rw [if_pos hs]; omega
    have e2 : fv + 1 + (((bv - 1 - fv).toNat : Nat) : Int) = bv := by omega
    refine ⟨by omega, by omega, h4, h6, fun k a b q => ?_, fun q r c => ?_, fun q r c => ?_⟩
    · rw [if_pos hs] at b
      unfold nxt
      by_cases z : k + 1 < L
      · rw [if_pos z]
        have := h5 k a z
        omega
      · rw [if_neg z, show k = L - 1 by omega]
        omega
    · rw [el, sgs_snoc, e2, if_neg (by omega), h7 r bv c (Int.le_refl _), q]
      refine sgT_no ?_
      rw [q, show (1 : Int) - 1 = 0 by omega] at h3
      show px fv - px (bv - 1) = 0 ∧ py fv - py (bv - 1) = 0
      omega
    · rw [el, sgs_snoc, e2, if_neg (by omega), h7 r bv c (Int.le_refl _), if_pos hs, show L.toNat = (L - 1).toNat + 1 by omega, sgD_snoc, ← sgC_D _ _ _ (show (0 : Int) + (((L - 1).toNat : Nat) : Int) < L by omega)]
      have e5 : nxt L (0 + (((L - 1).toNat : Nat) : Int)) = 0 := by unfold nxt; rw [if_neg (by omega)]
      rw [e5, show (0 : Int) + (((L - 1).toNat : Nat) : Int) = L - 1 by omega, h3.1, h3.2, h4.1, h4.2]
theorem lv_less {px py lx ly : Int → Int} {fv bv shv L : Int} (h : lvI px py lx ly fv bv L) (hb : fv < bv) (hs : shv = 1) (hc : 1 < L ∧ lx (L - 1) = lx 0 ∧ ly (L - 1) = ly 0) : lvE px py lx ly fv bv shv (L - 1) ∧ 1 < L - 1 := by
  rcases h with ⟨h1, h2⟩ | ⟨h1, h2, h3, h4, h5, h6, h7⟩
  · omega
  · have hL : 2 < L := by
      rcases Int.lt_or_le 2 L with q | q
      · exact q
      · have := h5 0 (by omega) (by omega)
        rw [show L - 1 = 0 + 1 by omega] at hc
        exact absurd ⟨hc.2.1, hc.2.2⟩ this
    have el : (sbL bv shv - fv).toNat = (bv - 1 - fv).toNat + 1 := by unfold sbL; rw [if_pos hs]; omega
    have e2 : fv + 1 + (((bv - 1 - fv).toNat : Nat) : Int) = bv := by omega
    refine ⟨⟨by omega, by omega, h4, fun j a b => h6 j a (by omega), fun k a b q => ?_, fun q r c => by omega, fun q r c => ?_⟩, by omega⟩
    · rw [if_pos hs] at b
      unfold nxt
      by_cases z : k + 1 < L - 1
      · rw [if_pos z]
        have := h5 k a (by omega)
        omega
      · rw [if_neg z, show k = L - 1 - 1 by omega]
        have := h5 (L - 1 - 1) (by omega) (by omega)
        rw [show L - 1 - 1 + 1 = L - 1 by omega] at this
        omega
    · have e6 : sgT (px, py, r) (px (bv - 1)) (py (bv - 1)) (px fv) (py fv) (sgC (px, py, r) lx ly (L - 1).toNat 0 c) = sgC (px, py, r) lx ly (L - 1).toNat 0 c := by
        refine sgT_no ?_
        rw [← h3.1, ← h3.2, ← h4.1, ← h4.2]
        omega
      rw [el, sgs_snoc, e2, if_neg (by omega), h7 r bv c (Int.le_refl _)]
      refine e6.trans ?_
      rw [if_pos hs, show (L - 1).toNat = (L - 1 - 1).toNat + 1 by omega, sgD_snoc, sgC_snoc, sgC_D (m := L - 1) _ _ _ (show (0 : Int) + (((L - 1 - 1).toNat : Nat) : Int) < L - 1 by omega)]
      have e5 : nxt (L - 1) (0 + (((L - 1 - 1).toNat : Nat) : Int)) = 0 := by unfold nxt; rw [if_neg (by omega)]
      rw [e5, show (0 : Int) + (((L - 1 - 1).toNat : Nat) : Int) + 1 = L - 1 by omega, hc.2.1, hc.2.2]
theorem lv_co {px py lx ly : Int → Int} {fv k L bv : Int} (h : lvI px py lx ly fv k L) (hco : ∀ j, 0 ≤ j → j < bv → coP (px j) ∧ coP (py j)) (hf : 0 ≤ fv) (hk : k ≤ bv) : ∀ j, 0 ≤ j → j < L → coP (lx j) ∧ coP (ly j) := by
  intro j h0 h1
  rcases h with h | ⟨-, -, -, -, -, h6, -⟩
  · omega
  · obtain ⟨i, i0, i1, i2, i3⟩ := h6 j h0 h1
    rw [i2, i3]
    exact hco i (by omega) (by omega)
theorem lvE_co {px py lx ly : Int → Int} {fv bv shv m : Int} (h : lvE px py lx ly fv bv shv m) (hco : ∀ j, 0 ≤ j → j < bv → coP (px j) ∧ coP (py j)) (hf : 0 ≤ fv) : ∀ j, 0 ≤ j → j < m → coP (lx j) ∧ coP (ly j) := by
  intro j h0 h1
  obtain ⟨i, i0, i1, i2, i3⟩ := h.2.2.2.1 j h0 h1
  rw [i2, i3]
  exact hco i (by omega) (by omega)
theorem nxt_mod {m k : Int} (h0 : 0 ≤ k) (h1 : k < m) : (k + 1) % m = nxt m k := by
  unfold nxt
  split
  · exact Int.emod_eq_of_lt (by omega) (by omega)
  · rw [show k + 1 = m by omega, Int.emod_self]
