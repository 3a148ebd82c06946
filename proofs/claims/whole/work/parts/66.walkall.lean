/-! the whole walk -/
def bvF (fs : Int → Int) (ns np s : Int) : Int := if s + 1 < ns then fs (s + 1) else np
def wkM (w : SW) (fs sh : Int → Int) (ns np sd so sr : Int) : Nat → Int → Int × (Int → Pc8) → Int × (Int → Pc8)
  | 0, _, c => c
  | n + 1, s, c => wkM w fs sh ns np sd so sr n (s + 1) (subM w (fs s) (bvF fs ns np s) (sh s) sd so sr c.1 c.2)
theorem wkM_N (w : SW) (fs sh : Int → Int) (ns np sd so sr : Int) : ∀ (n : Nat) (s : Int) (c : Int × (Int → Pc8)), c.1 ≤ (wkM w fs sh ns np sd so sr n s c).1 := by
  intro n
  induction n with
  | zero => intro s c; exact Int.le_refl _
  | succ n ih => intro s c; exact Int.le_trans subM_N (ih _ _)
theorem wkM_go {w : SW} {fs sh : Int → Int} {ns np sd so sr s : Int} {c : Int × (Int → Pc8)} (h : s < ns) : wkM w fs sh ns np sd so sr (ns - s).toNat s c = wkM w fs sh ns np sd so sr (ns - (s + 1)).toNat (s + 1) (subM w (fs s) (bvF fs ns np s) (sh s) sd so sr c.1 c.2) := by
  have e : (ns - s).toNat = (ns - (s + 1)).toNat + 1 := by omega
  rw [e]
  rfl
theorem wk_post {f1 f2 f3 f4 f5 f6 f7 f8 : Int → Int} {hd fu la N : Int} {F : Int → Pc8} {WM : Int × (Int → Pc8)} (h : wkS f1 f2 f3 f4 f5 f6 f7 f8 hd fu la N (-1) F) (hN : N ≤ WM.1) (hc : fu = 1 ∨ (N, F) = WM) : wkS f1 f2 f3 f4 f5 f6 f7 f8 hd fu la WM.1 (-1) WM.2 := by
  rcases hc with e | e
  · rcases h with h | ⟨q1, q2, q3, q4⟩
    · omega
    · exact Or.inr ⟨q1, q2, q3, by omega⟩
  · subst e
    exact h
theorem wk_capF {f1 f2 f3 f4 f5 f6 f7 f8 : Int → Int} {hd fu la N : Int} {F : Int → Pc8} {WM : Int × (Int → Pc8)} {cap cc : Nat} (h : wkS f1 f2 f3 f4 f5 f6 f7 f8 hd fu la N (-1) F) (hc : capQ cap) (hN0 : 0 ≤ N) (hcc : cc = capN cap 0 (N - 0).toNat) (hg : N ≤ WM.1) (he : fu = 1 ∨ (N, F) = WM) : cc = capN cap 0 WM.1.toNat := by
  rcases he with e | e
  · rcases h with h | ⟨q1, q2, q3, q4⟩
    · omega
    · rw [hcc, capN_full hc (Int.le_refl _) (by omega) (by omega), capN_full hc (Int.le_refl _) (by omega) (by omega)]
  · subst e
    rw [hcc, Int.sub_zero]
theorem capN_same {cap : Nat} {h : Int} : ∀ {k : Nat}, h + k ≤ cap ∨ 2000 ≤ cap → capQ cap → capN cap h k = cap := by
  intro k
  induction k with
  | zero => intro _ _; rfl
  | succ k ih =>
    intro hk hc
    have e := ih (by omega) hc
    have hl := capQ_le hc
    show gP (h + k) (capN cap h k) = cap
    rw [e]
    unfold gP
    split
    · rfl
    · omega
theorem capN_idem {cap : Nat} {N : Int} (hc : capQ cap) (h0 : 0 ≤ N) : capN (capN cap 0 N.toNat) 0 N.toNat = capN cap 0 N.toNat := by
  obtain ⟨a, b, c⟩ := capN_ok hc (Int.le_refl 0) (by omega) N.toNat
  exact capN_same (by omega) a
/-! the phase takes no more than two rounds -/
def sm (ln : Int → Int) : Nat → Int
  | 0 => 0
  | n + 1 => sm ln n + ln n
def cons (nd : Int) (ln : Int → Int) : Nat → Int → Int
  | 0, _ => 0
  | n + 1, d => ln d + cons nd ln n (nxt nd d)
theorem cons_nn {nd : Int} {ln : Int → Int} (hln : ∀ j, 0 ≤ j → j < nd → 0 ≤ ln j ∧ ln j ≤ 8192) : ∀ (n : Nat) (d : Int), 0 ≤ d → d < nd → 0 ≤ cons nd ln n d := by
  intro n
  induction n with
  | zero => intro d _ _; exact Int.le_refl _
  | succ n ih =>
    intro d h0 h1
    have := hln d h0 h1
    have := ih (nxt nd d) (by unfold nxt; split <;> omega) (by unfold nxt; split <;> omega)
    show 0 ≤ ln d + cons nd ln n (nxt nd d)
    omega
theorem cons_sweep {ln : Int → Int} {q : Nat} : ∀ (k : Nat), k + 1 ≤ q → ∀ m : Nat, cons q ln (k + 1 + m) ((q : Int) - (k + 1)) = sm ln q - sm ln (q - (k + 1)) + cons q ln m 0 := by
  intro k
  induction k with
  | zero =>
    intro hq m
    obtain ⟨r, rfl⟩ : ∃ r, q = r + 1 := ⟨q - 1, by omega⟩
    rw [show 0 + 1 + m = m + 1 by omega]
    show ln _ + cons _ ln m (nxt _ _) = _
    have e1 : nxt ((r + 1 : Nat) : Int) (((r + 1 : Nat) : Int) - (((0 : Nat) : Int) + 1)) = 0 := by unfold nxt; rw [if_neg (by omega)]
    rw [e1]
    have e2 : (((r + 1 : Nat) : Int) - (((0 : Nat) : Int) + 1)) = (r : Int) := by omega
    rw [e2]
    show _ = sm ln r + ln r - sm ln r + _
    omega
  | succ k ih =>
    intro hq m
    have hk := ih (by omega) m
    rw [show k + 1 + 1 + m = (k + 1 + m) + 1 by omega]
    show ln _ + cons _ ln (k + 1 + m) (nxt _ _) = _
    have e1 : nxt (q : Int) ((q : Int) - (((k + 1 : Nat) : Int) + 1)) = (q : Int) - (k + 1) := by unfold nxt; rw [if_pos (by omega)]; omega
    rw [e1, hk]
    obtain ⟨r, hr⟩ : ∃ r, q - (k + 1) = r + 1 := ⟨q - (k + 1) - 1, by omega⟩
    have e3 : q - (k + 1 + 1) = r := by omega
    rw [hr, e3]
    have e2 : (q : Int) - (((k + 1 : Nat) : Int) + 1) = (r : Int) := by omega
    rw [e2]
    show _ = sm ln q - sm ln r + _
    have e4 : sm ln (r + 1) = sm ln r + ln r := rfl
    rw [e4]
    omega
theorem cons_round {ln : Int → Int} {q : Nat} (hq : 0 < q) (m : Nat) : cons q ln (q + m) 0 = sm ln q + cons q ln m 0 := by
  have h := cons_sweep (ln := ln) (q := q) (q - 1) (by omega) m
  rw [show q - 1 + 1 = q by omega] at h
  rw [show (q : Int) - (((q - 1 : Nat) : Int) + 1) = 0 by omega, show q - q = 0 by omega] at h
  rw [h]
  show _ = sm ln q + _
  show sm ln q - 0 + _ = _
  omega
theorem phM_out {nd : Int} {ln : Int → Int} : ∀ (n : Nat) (o d w : Int), ¬ ln (phM nd ln n o d w).2.1 ≤ (phM nd ln n o d w).1 ∨ (phM nd ln n o d w).1 = o - cons nd ln n d := by
  intro n
  induction n with
  | zero => intro o d w; right; show o = o - 0; omega
  | succ n ih =>
    intro o d w
    by_cases q : ln d ≤ o
    · have e : phM nd ln (n + 1) o d w = phM nd ln n (o - ln d) (nxt nd d) (1 - w) := if_pos q
      rw [e]
      rcases ih (o - ln d) (nxt nd d) (1 - w) with h | h
      · exact Or.inl h
      · right
        rw [h]
        show o - ln d - cons nd ln n (nxt nd d) = o - (ln d + cons nd ln n (nxt nd d))
        omega
    · left
      rw [phM_stop q]
      exact q
theorem phM_bd {nd : Int} {ln : Int → Int} : ∀ (n : Nat) (o d w : Int), 0 ≤ o → 0 ≤ d → d < nd → w = 0 ∨ w = 1 → 0 ≤ (phM nd ln n o d w).1 ∧ (0 ≤ (phM nd ln n o d w).2.1 ∧ (phM nd ln n o d w).2.1 < nd) ∧ ((phM nd ln n o d w).2.2 = 0 ∨ (phM nd ln n o d w).2.2 = 1) := by
  intro n
  induction n with
  | zero => intro o d w h0 h1 h2 h3; exact ⟨h0, ⟨h1, h2⟩, h3⟩
  | succ n ih =>
    intro o d w h0 h1 h2 h3
    by_cases q : ln d ≤ o
    · have e : phM nd ln (n + 1) o d w = phM nd ln n (o - ln d) (nxt nd d) (1 - w) := if_pos q
      rw [e]
      exact ih _ _ _ (by omega) (by unfold nxt; split <;> omega) (by unfold nxt; split <;> omega) (by omega)
    · rw [phM_stop q]
      exact ⟨h0, ⟨h1, h2⟩, h3⟩
theorem cons_le {nd : Int} {ln : Int → Int} (hln : ∀ j, 0 ≤ j → j < nd → 0 ≤ ln j ∧ ln j ≤ 8192) : ∀ (a b : Nat) (d : Int), 0 ≤ d → d < nd → cons nd ln a d ≤ cons nd ln (a + b) d := by
  intro a
  induction a with
  | zero => intro b d h0 h1; exact cons_nn hln _ d h0 h1
  | succ a ih =>
    intro b d h0 h1
    rw [show a + 1 + b = (a + b) + 1 by omega]
    show ln d + cons nd ln a (nxt nd d) ≤ ln d + cons nd ln (a + b) (nxt nd d)
    have := ih b (nxt nd d) (by unfold nxt; split <;> omega) (by unfold nxt; split <;> omega)
    omega
theorem ph_16 {nd : Int} {ln : Int → Int} {wl o : Int} (hln : ∀ j, 0 ≤ j → j < nd → 0 ≤ ln j ∧ ln j ≤ 8192) (hnd : 0 < nd ∧ nd ≤ 8) (hw : wl = sm ln nd.toNat) (h0 : 0 ≤ o) (h1 : o < 2 * wl) : ¬ ln (phM nd ln 16 o 0 1).2.1 ≤ (phM nd ln 16 o 0 1).1 := by
  have hb := phM_bd (nd := nd) (ln := ln) 16 o 0 1 h0 (Int.le_refl _) hnd.1 (Or.inr rfl)
  rcases phM_out (nd := nd) (ln := ln) 16 o 0 1 with h | h
  · exact h
  · exfalso
    obtain ⟨q, rfl⟩ : ∃ q : Nat, nd = q := ⟨nd.toNat, by omega⟩
    have e1 := cons_round (ln := ln) (q := q) (by omega) q
    have e2 := cons_round (ln := ln) (q := q) (by omega) 0
    have e3 := cons_le hln (q + q) (16 - (q + q)) 0 (Int.le_refl _) hnd.1
    rw [show q + q + (16 - (q + q)) = 16 by omega] at e3
    rw [Nat.add_zero] at e2
    have e4 : cons q ln 0 0 = 0 := rfl
    rw [Int.toNat_natCast] at hw
    omega
/-- where the phase leads -/
theorem ph_ds {nd ph wl lf sd so : Int} {ln : Int → Int} (hln : ∀ j, 0 ≤ j → j < nd → 0 ≤ ln j ∧ ln j ≤ 8192) (hnd : 0 < nd ∧ nd ≤ 8) (hw : wl = sm ln nd.toNat) (hp : 0 < wl) (h : (lf, sd, so) = phM nd ln 16 (ph % (2 * wl)) 0 1) : dsB nd sd so (256 * (ln sd - lf)) ∧ lf < ln sd ∧ 0 ≤ lf := by
  have hm0 := Int.emod_nonneg ph (show 2 * wl ≠ 0 by omega)
  have hm1 := Int.emod_lt_of_pos ph (show 0 < 2 * wl by omega)
  have h1 := ph_16 hln hnd hw hm0 hm1
  have h2 := phM_bd (nd := nd) (ln := ln) 16 (ph % (2 * wl)) 0 1 hm0 (Int.le_refl _) hnd.1 (Or.inr rfl)
  rw [← h] at h1 h2
  have h1 : ¬ ln sd ≤ lf := h1
  have h3 : 0 ≤ lf := h2.1
  have h4 : 0 ≤ sd ∧ sd < nd := h2.2.1
  have h5 : so = 0 ∨ so = 1 := h2.2.2
  have := hln sd h4.1 h4.2
  exact ⟨⟨h4, h5, by omega, by omega⟩, by omega, h3⟩
theorem wk_start {w : SW} {fs sh ln : Int → Int} {ns np nd ph wl sr sd2 so2 sr2 lf2 : Int} {PF : Int × Int × Int} {c WM : Int × (Int → Pc8)} (hln : ∀ j, 0 ≤ j → j < nd → 0 ≤ ln j ∧ ln j ≤ 8192) (hnd : 0 ≤ nd ∧ nd ≤ 8) (hws : wl = sm ln nd.toNat) (hnw : 0 < wl → 0 < nd) (hPF : PF = phM nd ln 16 (ph % (2 * wl)) 0 1)
    (hWM : (0 < wl → wkM w fs sh ns np PF.2.1 PF.2.2 (256 * (ln PF.2.1 - PF.1)) ns.toNat 0 c = WM) ∧ (¬ 0 < wl → wkM w fs sh ns np 0 1 sr ns.toNat 0 c = WM))
    (hw : (wl ≤ 0 → sd2 = 0 ∧ so2 = 1 ∧ sr2 = sr) ∧ (0 < wl → (lf2, sd2, so2) = PF ∧ sr2 = 256 * (ln sd2 - lf2))) : (0 < wl → dsB nd sd2 so2 sr2) ∧ (so2 = 0 ∨ so2 = 1) ∧ wkM w fs sh ns np sd2 so2 sr2 (ns - 0).toNat 0 c = WM := by
  rw [Int.sub_zero]
  by_cases q : 0 < wl
  · obtain ⟨e, e2⟩ := hw.2 q
    have hd := ph_ds (lf := lf2) (sd := sd2) (so := so2) hln ⟨hnw q, hnd.2⟩ hws q (e.trans hPF)
    refine ⟨fun _ => by rw [e2]; exact hd.1, hd.1.2.1, ?_⟩
    have h := hWM.1 q
    rw [← e] at h
    rw [e2]
    exact h
  · obtain ⟨e1, e2, e3⟩ := hw.1 (by omega)
    refine ⟨fun h => absurd h q, Or.inr e2, ?_⟩
    rw [e1, e2, e3]
    exact hWM.2 q
