/-! cutting a segment by dashes -/
abbrev SG : Type := Int × Int × Int × Int × Int × Int × Int × Int × (Int → Int)
abbrev SG.l (c : SG) : Int := c.1
abbrev SG.fx (c : SG) : Int := c.2.1
abbrev SG.fy (c : SG) : Int := c.2.2.1
abbrev SG.ax (c : SG) : Int := c.2.2.2.1
abbrev SG.ay (c : SG) : Int := c.2.2.2.2.1
abbrev SG.ox (c : SG) : Int := c.2.2.2.2.2.1
abbrev SG.oy (c : SG) : Int := c.2.2.2.2.2.2.1
abbrev SG.nd (c : SG) : Int := c.2.2.2.2.2.2.2.1
abbrev SG.ln (c : SG) : Int → Int := c.2.2.2.2.2.2.2.2
abbrev CS : Type := Int × Int × Int × Int × Int × Int × (Int → Pc8)
abbrev CS.t (c : CS) : Int := c.1
abbrev CS.dd (c : CS) : Int := c.2.1
abbrev CS.on (c : CS) : Int := c.2.2.1
abbrev CS.rs (c : CS) : Int := c.2.2.2.1
abbrev CS.N (c : CS) : Int := c.2.2.2.2.1
abbrev CS.L (c : CS) : Int := c.2.2.2.2.2.1
abbrev CS.F (c : CS) : Int → Pc8 := c.2.2.2.2.2.2
def ctP (g : SG) (t q L : Int) : Pc8 := (fnA g.l g.fx g.ax t, fnA g.l g.fy g.ay t, fnA g.l g.fx g.ax q, fnA g.l g.fy g.ay q, g.ox, g.oy, L, 0)
def ctA (g : SG) (q : Int) (c : CS) : CS := if c.on = 1 then ⟨c.t, c.dd, c.on, c.rs, c.N + 1, c.N, fup c.F c.N (ctP g c.t q c.L)⟩ else c
def ctE (g : SG) (q : Int) (c : CS) : CS := if c.rs - (q - c.t) ≤ 0 then ⟨q, nxt g.nd c.dd, 1 - c.on, 256 * g.ln (nxt g.nd c.dd), c.N, -1, fend c.F c.L 1⟩ else ⟨q, c.dd, c.on, c.rs - (q - c.t), c.N, c.L, c.F⟩
def ctS (g : SG) (c : CS) : CS := ctE g (min g.l (c.t + c.rs)) (ctA g (min g.l (c.t + c.rs)) c)
def ctM (g : SG) : Nat → CS → CS
  | 0, c => c
  | n + 1, c => if c.t < g.l ∨ c.rs ≤ 0 then ctM g n (ctS g c) else c
theorem ctA_N (g : SG) (q : Int) (c : CS) : c.N ≤ (ctA g q c).N := by
  unfold ctA
  split
  · show c.N ≤ c.N + 1; omega
  · exact Int.le_refl _
theorem ctE_N (g : SG) (q : Int) (c : CS) : (ctE g q c).N = c.N := by
  unfold ctE
  split <;> rfl
theorem ctS_N (g : SG) (c : CS) : c.N ≤ (ctS g c).N := by
  unfold ctS
  rw [ctE_N]
  exact ctA_N g _ c
theorem ctM_N (g : SG) : ∀ (n : Nat) (c : CS), c.N ≤ (ctM g n c).N := by
  intro n
  induction n with
  | zero => intro c; exact Int.le_refl _
  | succ n ih =>
    intro c
    unfold ctM
    split
    · exact Int.le_trans (ctS_N g c) (ih _)
    · exact Int.le_refl _
theorem ctM_stop {g : SG} {n : Nat} {c : CS} (h : ¬ (c.t < g.l ∨ c.rs ≤ 0)) : ctM g n c = c := by
  cases n with
  | zero => rfl
  | succ n => unfold ctM; rw [if_neg h]
theorem ctM_go {g : SG} {fl : Nat} {k : Int} {c : CS} (h0 : 0 ≤ k) (hk : k < fl) (h : c.t < g.l ∨ c.rs ≤ 0) : ctM g (fl - k).toNat c = ctM g (fl - (k + 1)).toNat (ctS g c) := by
  have e : ((fl : Int) - k).toNat = ((fl : Int) - (k + 1)).toNat + 1 := by omega
  rw [e]
  show (if c.t < g.l ∨ c.rs ≤ 0 then _ else _) = _
  rw [if_pos h]
theorem capN_ok {cap : Nat} {h : Int} (hc : capQ cap) (h0 : 0 ≤ h) (h1 : h ≤ cap) : ∀ k : Nat, capQ (capN cap h k) ∧ (h + k ≤ capN cap h k ∨ capN cap h k = 2000) ∧ cap ≤ capN cap h k := by
  intro k
  induction k with
  | zero => exact ⟨hc, Or.inl (by show h + ((0 : Nat) : Int) ≤ cap; omega), Nat.le_refl _⟩
  | succ k ih =>
    obtain ⟨a, b, c⟩ := ih
    have hl := capQ_le a
    show capQ (gP (h + k) (capN cap h k)) ∧ (h + ((k + 1 : Nat) : Int) ≤ gP (h + k) (capN cap h k) ∨ gP (h + k) (capN cap h k) = 2000) ∧ cap ≤ gP (h + k) (capN cap h k)
    by_cases q : h + k ≤ capN cap h k
    · obtain ⟨x, y, z⟩ := gP_ok a (h := h + k) (by omega) q
      refine ⟨x, ?_, by omega⟩
      by_cases w : h + k < 2000
      · have := y w; omega
      · right; unfold gP; rw [if_pos (by omega)]; omega
    · have e : gP (h + k) (capN cap h k) = capN cap h k := if_pos (by omega)
      rw [e]
      exact ⟨a, by omega, c⟩
theorem capN_full {cap : Nat} {h : Int} {k : Nat} (hc : capQ cap) (h0 : 0 ≤ h) (h1 : h ≤ cap) (hk : 2000 ≤ h + k) : capN cap h k = 2000 := by
  obtain ⟨a, b, c⟩ := capN_ok hc h0 h1 k
  have := capQ_le a
  omega
theorem capN_step {cap : Nat} {h N : Int} (h1 : h ≤ N) : capN cap h (N + 1 - h).toNat = gP N (capN cap h (N - h).toNat) := by
  have e : (N + 1 - h).toNat = (N - h).toNat + 1 := by omega
  rw [e]
  show gP (h + ((N - h).toNat : Int)) _ = _
  rw [Int.toNat_of_nonneg (by omega)]
  have e2 : h + (N - h) = N := by omega
  rw [e2]
theorem capN_add {cap : Nat} {h : Int} (j k : Nat) : capN (capN cap h j) (h + j) k = capN cap h (j + k) := by
  induction k with
  | zero => rfl
  | succ k ih =>
    show gP (h + j + k) (capN (capN cap h j) (h + j) k) = gP (h + ((j + k : Nat) : Int)) (capN cap h (j + k))
    rw [ih]
    have e : h + (j : Int) + (k : Int) = h + ((j + k : Nat) : Int) := by omega
    rw [e]
theorem capN_le {cap : Nat} {h : Int} {j k : Nat} (hjk : j ≤ k) : capN cap h j ≤ capN cap h k := by
  induction k with
  | zero => rw [Nat.le_zero.mp hjk]; exact Nat.le_refl _
  | succ k ih =>
    rcases Nat.lt_or_eq_of_le hjk with q | q
    · exact Nat.le_trans (ih (by omega)) (capN_mono k)
    · rw [q]; exact Nat.le_refl _
/-- from a count N behind h to a greater one M -/
theorem capN_more {cap : Nat} {h N M : Int} (h1 : h ≤ N) (h2 : N ≤ M) : capN (capN cap h (N - h).toNat) N (M - N).toNat = capN cap h (M - h).toNat := by
  have e := capN_add (cap := cap) (h := h) (N - h).toNat (M - N).toNat
  rw [Int.toNat_of_nonneg (by omega)] at e
  have e2 : h + (N - h) = N := by omega
  rw [e2] at e
  rw [e]
  congr 1
  omega
/-- what a step of the cutting keeps -/
theorem wk_cap {f1 f2 f3 f4 f5 f6 f7 f8 : Int → Int} {hd fu la N L hd0 : Int} {F : Int → Pc8} {cap cc : Nat} (h : wkS f1 f2 f3 f4 f5 f6 f7 f8 hd fu la N L F) (hc : capQ cap) (h0 : 0 ≤ hd0) (h1 : hd0 ≤ cap) (hN : hd0 ≤ N) (hcc : cc = capN cap hd0 (N - hd0).toNat) : capQ cc ∧ cap ≤ cc ∧ 16 ≤ cc ∧ cc ≤ 2000 ∧ hd ≤ cc ∧ la < cc := by
  obtain ⟨a, b, c⟩ := capN_ok hc h0 h1 (N - hd0).toNat
  rw [← hcc] at a b c
  have := capQ_le a
  refine ⟨a, c, this.1, this.2, ?_, ?_⟩
  · rcases h with h | h <;> omega
  · rcases h with h | h <;> omega
theorem cut_post {f1 f2 f3 f4 f5 f6 f7 f8 : Int → Int} {hd fu la t dd on rs N L : Int} {F : Int → Pc8} {FI : CS} (h : wkS f1 f2 f3 f4 f5 f6 f7 f8 hd fu la N L F) (hN : N ≤ FI.N) (hc : fu = 1 ∨ ((t, dd, on, rs, N, L, F) : CS) = FI) : wkS f1 f2 f3 f4 f5 f6 f7 f8 hd fu la FI.N FI.L FI.F ∧ (fu = 0 → dd = FI.dd ∧ on = FI.on ∧ rs = FI.rs) := by
  rcases hc with e | e
  · refine ⟨?_, fun h9 => by omega⟩
    rcases h with h | ⟨q1, q2, q3, q4⟩
    · omega
    · exact Or.inr ⟨q1, q2, q3, by omega⟩
  · subst e
    exact ⟨h, fun _ => ⟨rfl, rfl, rfl⟩⟩
theorem cut_cap {f1 f2 f3 f4 f5 f6 f7 f8 : Int → Int} {hd fu la t dd on rs N L hd0 : Int} {F : Int → Pc8} {FI : CS} {cap cc : Nat} (h : wkS f1 f2 f3 f4 f5 f6 f7 f8 hd fu la N L F) (hc : capQ cap) (h0 : 0 ≤ hd0) (h1 : hd0 ≤ cap) (hN : hd0 ≤ N) (hcc : cc = capN cap hd0 (N - hd0).toNat) (hg : N ≤ FI.N) (he : fu = 1 ∨ ((t, dd, on, rs, N, L, F) : CS) = FI) : cc = capN cap hd0 (FI.N - hd0).toNat := by
  rcases he with e | e
  · rcases h with h | ⟨q1, q2, q3, q4⟩
    · omega
    · rw [hcc, capN_full hc h0 h1 (by omega), capN_full hc h0 h1 (by omega)]
  · subst e
    exact hcc
theorem cut_more {g : SG} {fl : Nat} {k : Int} {c FI : CS} (h : ctM g ((fl : Int) - k).toNat c = FI) (h0 : 0 ≤ k) (hk : k < fl) (hg : c.t < g.l ∨ c.rs ≤ 0) (hon : c.on = 1) : c.N + 1 ≤ FI.N := by
  rw [ctM_go h0 hk hg] at h
  have h2 := ctM_N g ((fl : Int) - (k + 1)).toNat (ctS g c)
  rw [h] at h2
  unfold ctS at h2
  rw [ctE_N] at h2
  unfold ctA at h2
  rw [if_pos hon] at h2
  exact h2
theorem cut_j {g : SG} {n : Nat} {q : Int} {c FI : CS} (h : ctM g n (ctE g q c) = FI) : c.N ≤ FI.N := by
  have h2 := ctM_N g n (ctE g q c)
  rw [h, ctE_N] at h2
  exact h2
theorem capN_leI {cap : Nat} {h N M : Int} (h1 : N ≤ M) : capN cap h (N - h).toNat ≤ capN cap h (M - h).toNat := capN_le (by omega)
theorem ctE_on {g : SG} {q t dd on rs N L : Int} {F : Int → Pc8} (h : ¬ rs - (q - t) ≤ 0) : ctE g q (t, dd, on, rs, N, L, F) = (q, dd, on, rs - (q - t), N, L, F) := if_neg h
theorem ctE_e {g : SG} {q t dd on o2 rs N L : Int} {F : Int → Pc8} (h : rs - (q - t) ≤ 0) (ho : 1 - on = o2) : ctE g q (t, dd, on, rs, N, L, F) = (q, nxt g.nd dd, o2, 256 * g.ln (nxt g.nd dd), N, -1, fend F L 1) := by
  subst ho
  exact if_pos h
theorem ctS_off {g : SG} {t dd on rs N L q : Int} {F : Int → Pc8} (h : ¬ on = 1) (hq : q = min g.l (t + rs)) : ctS g (t, dd, on, rs, N, L, F) = ctE g q (t, dd, on, rs, N, L, F) := by
  subst hq
  unfold ctS ctA
  exact congrArg (ctE g _) (if_neg h)
theorem ctS_on {g : SG} {t dd on rs N L q : Int} {F : Int → Pc8} (h : on = 1) (hq : q = min g.l (t + rs)) : ctS g (t, dd, on, rs, N, L, F) = ctE g q (t, dd, on, rs, N + 1, N, fup F N (ctP g t q L)) := by
  subst hq
  unfold ctS ctA
  exact congrArg (ctE g _) (if_pos h)
