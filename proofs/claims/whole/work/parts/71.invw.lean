/-! what the walk keeps -/
def swV (w : SW) : Prop := (8 ≤ w.hf ∧ w.hf ≤ 32768) ∧ (0 ≤ w.nd ∧ w.nd ≤ 8) ∧ (∀ j, 0 ≤ j → j < w.nd → 0 ≤ w.ln j ∧ w.ln j ≤ 8192) ∧ w.wl = sm w.ln w.nd.toNat ∧ w.fl = 1000000
theorem sgm_V {w : SW} {x1 y1 x2 y2 : Int} (hw : swV w) (h1 : coP x1 ∧ coP y1) (h2 : coP x2 ∧ coP y2) (h : ¬ (x2 - x1 = 0 ∧ y2 - y1 = 0)) : sgV w.hf (sgm w x1 y1 x2 y2) := by
  have hx : -16383 ≤ x2 - x1 ∧ x2 - x1 ≤ 16383 := by unfold coP at *; omega
  have hy : -16383 ≤ y2 - y1 ∧ y2 - y1 ≤ 16383 := by unfold coP at *; omega
  have hp := sq_pos h
  refine ⟨sgL_bd h hx hy, (rt_ok (n := 65536 * ((x2 - x1) * (x2 - x1) + (y2 - y1) * (y2 - y1))) (by omega)).2.1, h, sgO_ok (by have := hw.1.1; omega) h, h1.1, h1.2, ?_, ?_, hw.1.1, hw.1.2⟩
  · show coP (x1 + (x2 - x1))
    rw [show x1 + (x2 - x1) = x2 by omega]; exact h2.1
  · show coP (y1 + (y2 - y1))
    rw [show y1 + (y2 - y1) = y2 by omega]; exact h2.2
/-- where the walk stands at a point (x, y) of a subpath that began with piece bg at (x0, y0) -/
def sgI (w : SW) (bg x0 y0 x y : Int) (c : CS) : Prop :=
  INV w.hf c.N c.L c.F ∧ (0 ≤ c.L → (c.F c.L).2.2.1 = 16 * x ∧ (c.F c.L).2.2.2.1 = 16 * y) ∧ (c.t = 0 ∨ c.t = 1) ∧ (c.t = 0 → c.N = bg ∧ c.L = -1 ∧ x = x0 ∧ y = y0) ∧ (0 < w.wl → dsB w.nd c.dd c.on c.rs ∧ (0 ≤ c.L → c.on = 1)) ∧ (¬ 0 < w.wl → c.t = 1 → bg < c.N ∧ c.L = c.N - 1 ∧ (c.F bg).1 = 16 * x0 ∧ (c.F bg).2.1 = 16 * y0 ∧ ¬ pcKd (c.F bg) = 2)
theorem fn_0 {l fr al : Int} (hl : 0 < l) : fnA l fr al 0 = 16 * fr := by rw [fnA_r, rn_0 hl]; omega
theorem fn_l {l fr al : Int} (hl : 0 < l) : fnA l fr al l = 16 * fr + 16 * al := by rw [fnA_r, rn_l hl]
theorem sgT_I {w : SW} {bg x0 y0 x1 y1 x2 y2 : Int} {c : CS} (hw : swV w) (hbg : 0 ≤ bg) (h1 : coP x1 ∧ coP y1) (h2 : coP x2 ∧ coP y2) (h : sgI w bg x0 y0 x1 y1 c) : sgI w bg x0 y0 x2 y2 (sgT w x1 y1 x2 y2 c) := by
  by_cases hz : x2 - x1 = 0 ∧ y2 - y1 = 0
  · rw [sgT_no hz, show x2 = x1 by omega, show y2 = y1 by omega]
    exact h
  · have hg := sgm_V hw h1 h2 hz
    have hl0 := hg.1.1
    obtain ⟨t, dd, on, rs, N, L, F⟩ := c
    obtain ⟨i1, i2, i3, i4, i5, i6⟩ := h
    have i1 : INV w.hf N L F := i1
    have i2 : 0 ≤ L → (F L).2.2.1 = 16 * x1 ∧ (F L).2.2.2.1 = 16 * y1 := i2
    have i3 : t = 0 ∨ t = 1 := i3
    have i4 : t = 0 → N = bg ∧ L = -1 ∧ x1 = x0 ∧ y1 = y0 := i4
    by_cases hd : 0 < w.wl
    · have i5 : dsB w.nd dd on rs ∧ (0 ≤ L → on = 1) := i5 hd
      obtain ⟨CF, hCF⟩ : ∃ z, ctM (sgm w x1 y1 x2 y2) w.fl (0, dd, on, rs, N, L, F) = z := ⟨_, rfl⟩
      rw [sgT_cut hz hd hCF]
      have hws : 0 < sm w.ln w.nd.toNat := by rw [← hw.2.2.2.1]; exact hd
      have he := ctM_end (g := sgm w x1 y1 x2 y2) (N := N) (L := L) (F := F) hw.2.2.1 hw.2.1.2 hws i5.1 hg.1 hw.2.2.2.2
      have hI := ctM_I (g := sgm w x1 y1 x2 y2) hg hw.2.2.1 w.fl (0, dd, on, rs, N, L, F) ⟨i1, ⟨Int.le_refl _, Int.le_of_lt hl0⟩, by
        intro z
        have hL := i2 z
        refine ⟨i5.2 z, ?_, ?_⟩
        · show (F L).2.2.1 = fnA _ x1 _ 0
          rw [fn_0 hl0]; exact hL.1
        · show (F L).2.2.2.1 = fnA _ y1 _ 0
          rw [fn_0 hl0]; exact hL.2, Or.inl rfl, i5.1⟩
      rw [hCF] at he hI
      obtain ⟨j1, j2, j3, j4, j5⟩ := hI
      refine ⟨j1, ?_, Or.inr rfl, ?_, fun _ => ⟨j5, fun z => (j3 z).1⟩, fun z => absurd hd z⟩
      · intro z
        obtain ⟨-, k1, k2⟩ := j3 z
        rw [he.1] at k1 k2
        rw [fn_l hl0] at k1 k2
        have e1 : (sgm w x1 y1 x2 y2).fx = x1 := rfl
        have e2 : (sgm w x1 y1 x2 y2).ax = x2 - x1 := rfl
        have e3 : (sgm w x1 y1 x2 y2).fy = y1 := rfl
        have e4 : (sgm w x1 y1 x2 y2).ay = y2 - y1 := rfl
        rw [e1, e2] at k1
        rw [e3, e4] at k2
        refine ⟨?_, ?_⟩
        · show (CF.F CF.L).2.2.1 = 16 * x2
          omega
        · show (CF.F CF.L).2.2.2.1 = 16 * y2
          omega
      · intro (z : (1 : Int) = 0)
        omega
    · rw [sgT_pl hz hd]
      have hp := ctP_ok (t := 0) (q := (sgm w x1 y1 x2 y2).l) (L := L) hg (Int.le_refl _) (Int.le_of_lt hl0) (Int.le_refl _) (Or.inl rfl)
      have ea1 : (ctP (sgm w x1 y1 x2 y2) 0 (sgm w x1 y1 x2 y2).l L).1 = 16 * x1 := fn_0 hl0
      have ea2 : (ctP (sgm w x1 y1 x2 y2) 0 (sgm w x1 y1 x2 y2).l L).2.1 = 16 * y1 := fn_0 hl0
      have eb1 : (ctP (sgm w x1 y1 x2 y2) 0 (sgm w x1 y1 x2 y2).l L).2.2.1 = 16 * x1 + 16 * (x2 - x1) := fn_l hl0
      have eb2 : (ctP (sgm w x1 y1 x2 y2) 0 (sgm w x1 y1 x2 y2).l L).2.2.2.1 = 16 * y1 + 16 * (y2 - y1) := fn_l hl0
      have hN := i1.1
      refine ⟨INV_add i1 hp.1 rfl hp.2 rfl ?_, ?_, Or.inr rfl, ?_, fun z => absurd z hd, ?_⟩
      · intro z
        rw [ea1, ea2]
        exact i2 z
      · intro _
        show (fup F N (ctP (sgm w x1 y1 x2 y2) 0 (sgm w x1 y1 x2 y2).l L) N).2.2.1 = 16 * x2 ∧ (fup F N (ctP (sgm w x1 y1 x2 y2) 0 (sgm w x1 y1 x2 y2).l L) N).2.2.2.1 = 16 * y2
        rw [fup_s]
        omega
      · intro (z : (1 : Int) = 0)
        omega
      · intro _ _
        rcases i3 with e | e
        · obtain ⟨k1, k2, k3, k4⟩ := i4 e
          refine ⟨?_, ?_, ?_, ?_, ?_⟩
          · show bg < N + 1; omega
          · show N = N + 1 - 1; omega
          · show (fup F N _ bg).1 = _
            rw [← k1, fup_s, ea1, k3]
          · show (fup F N _ bg).2.1 = _
            rw [← k1, fup_s, ea2, k4]
          · show ¬ pcKd (fup F N _ bg) = 2
            rw [← k1, fup_s]
            show ¬ (0 : Int) = 2
            omega
        · obtain ⟨k1, k2, k3, k4, k5⟩ := i6 hd e
          have k1 : bg < N := k1
          refine ⟨?_, ?_, ?_, ?_, ?_⟩
          · show bg < N + 1; omega
          · show N = N + 1 - 1; omega
          · show (fup F N _ bg).1 = _
            rw [fup_n (by omega)]; exact k3
          · show (fup F N _ bg).2.1 = _
            rw [fup_n (by omega)]; exact k4
          · show ¬ pcKd (fup F N _ bg) = 2
            rw [fup_n (by omega)]; exact k5
/-- the point at which a segment ends -/
def enP (fv bv i : Int) : Int := if i < bv then i else fv
theorem sgs_I {w : SW} {bg fv bv : Int} (hw : swV w) (hbg : 0 ≤ bg) (hfb : fv < bv) (hco : ∀ j, fv ≤ j → j < bv → coP (w.px j) ∧ coP (w.py j)) : ∀ (n : Nat) (i : Int) (c : CS), fv + 1 ≤ i → i + n ≤ bv + 1 → sgI w bg (w.px fv) (w.py fv) (w.px (enP fv bv (i - 1))) (w.py (enP fv bv (i - 1))) c → sgI w bg (w.px fv) (w.py fv) (w.px (enP fv bv (i + n - 1))) (w.py (enP fv bv (i + n - 1))) (sgs w fv bv n i c) := by
  intro n
  induction n with
  | zero => intro i c h0 h1 h; rw [show i + ((0 : Nat) : Int) - 1 = i - 1 by omega]; exact h
  | succ n ih =>
    intro i c h0 h1 h
    have e1 : enP fv bv (i - 1) = i - 1 := if_pos (by omega)
    rw [e1] at h
    have c2 : coP (w.px (enP fv bv i)) ∧ coP (w.py (enP fv bv i)) := by
      unfold enP
      split
      · exact hco _ (by omega) (by omega)
      · exact hco _ (by omega) (by omega)
    have hT := sgT_I hw hbg (hco (i - 1) (by omega) (by omega)) c2 h
    have hR := ih (i + 1) _ (by omega) (by omega) (by rw [show i + 1 - 1 = i by omega]; exact hT)
    rw [show i + ((n + 1 : Nat) : Int) - 1 = i + 1 + (n : Int) - 1 by omega]
    exact hR
theorem sbC_I {w : SW} {bg shv N L : Int} {F : Int → Pc8} (hbg : 0 ≤ bg) (h : INV w.hf N L F) (hc : shv = 1 ∧ ¬ 0 < w.wl → 0 ≤ L ∧ bg ≤ L → ¬ pcKd (F bg) = 2 ∧ (F L).2.2.1 = (F bg).1 ∧ (F L).2.2.2.1 = (F bg).2.1) : INV w.hf (sbC shv w.wl bg N L F).1 (-1) (sbC shv w.wl bg N L F).2 := by
  unfold sbC
  by_cases q : shv = 1 ∧ ¬ 0 < w.wl
  · rw [if_pos q]
    exact INV_end (INV_close h hbg (hc q))
  · rw [if_neg q]
    exact INV_end h
theorem subM_I {w : SW} {fv bv shv sd so sr N : Int} {F : Int → Pc8} (hw : swV w) (hfb : fv < bv) (hs : shv = 0 ∨ shv = 1) (hco : ∀ j, fv ≤ j → j < bv → coP (w.px j) ∧ coP (w.py j)) (hd : 0 < w.wl → dsB w.nd sd so sr) (h : INV w.hf N (-1) F) : INV w.hf (subM w fv bv shv sd so sr N F).1 (-1) (subM w fv bv shv sd so sr N F).2 := by
  have hN := h.1
  have hI := sgs_I (bg := N) hw hN hfb hco (sbL bv shv - fv).toNat (fv + 1) (0, sd, so, sr, N, -1, F) (Int.le_refl _) (by unfold sbL; split <;> omega) (by
    have e : enP fv bv (fv + 1 - 1) = fv := by unfold enP; rw [if_pos (by omega)]; omega
    rw [e]
    refine ⟨h, ?_, Or.inl rfl, fun _ => ⟨rfl, rfl, rfl, rfl⟩, fun z => ⟨hd z, ?_⟩, ?_⟩
    · intro (z : (0 : Int) ≤ -1); omega
    · intro (z : (0 : Int) ≤ -1); omega
    · intro _ (z : (0 : Int) = 1); omega)
  unfold subM
  obtain ⟨FC, hFC⟩ : ∃ z, sgs w fv bv (sbL bv shv - fv).toNat (fv + 1) (0, sd, so, sr, N, -1, F) = z := ⟨_, rfl⟩
  rw [hFC] at hI ⊢
  obtain ⟨i1, i2, i3, i4, i5, i6⟩ := hI
  unfold sbD
  by_cases q : FC.t = 0 ∧ (shv = 1 ∨ 1 < bv - fv)
  · rw [if_pos q]
    obtain ⟨k1, k2, k3, k4⟩ := i4 q.1
    have hc := hco fv (Int.le_refl _) hfb
    unfold coP at hc
    rw [k2] at i1 ⊢
    exact sbC_I hN (INV_dot i1 hw.1 (by omega) (by omega)) (fun _ z => by omega)
  · rw [if_neg q]
    refine sbC_I hN i1 ?_
    intro z y
    rcases i3 with e | e
    · have := (i4 e).2.1
      omega
    · obtain ⟨k1, k2, k3, k4, k5⟩ := i6 z.2 e
      have ep : enP fv bv (fv + 1 + ((sbL bv shv - fv).toNat : Int) - 1) = fv := by
        unfold sbL enP
        rw [if_pos z.1, if_neg (by omega)]
      rw [ep] at i2
      have := i2 y.1
      exact ⟨k5, by rw [k3]; exact this.1, by rw [k4]; exact this.2⟩
theorem wkM_I {w : SW} {fs sh : Int → Int} {ns np sd so sr : Int} (hw : swV w) (hsh : ∀ j, sh j = 0 ∨ sh j = 1) (hpt : ∀ s, 0 ≤ s → s < ns → 0 ≤ fs s ∧ fs s < bvF fs ns np s ∧ bvF fs ns np s ≤ np) (hco : ∀ j, 0 ≤ j → j < np → coP (w.px j) ∧ coP (w.py j)) (hd : 0 < w.wl → dsB w.nd sd so sr) : ∀ (n : Nat) (s : Int) (c : Int × (Int → Pc8)), 0 ≤ s → s + n ≤ ns → INV w.hf c.1 (-1) c.2 → INV w.hf (wkM w fs sh ns np sd so sr n s c).1 (-1) (wkM w fs sh ns np sd so sr n s c).2 := by
  intro n
  induction n with
  | zero => intro s c _ _ h; exact h
  | succ n ih =>
    intro s c h0 h1 h
    have hp := hpt s h0 (by omega)
    exact ih (s + 1) _ (by omega) (by omega) (subM_I hw hp.2.1 (hsh s) (fun j a b => hco j (by omega) (by omega)) hd h)
theorem INV_0 {H : Int} {F : Int → Pc8} : INV H 0 (-1) F := ⟨Int.le_refl _, by omega, by omega, fun z => by omega, fun n a b => by omega⟩
theorem INV_pcV {H N : Int} {F : Int → Pc8} {f1 f2 f3 f4 f5 f6 f7 f8 : Int → Int} (h : INV H N (-1) F) (hr : rpC f1 f2 f3 f4 f5 f6 f7 f8 F N) : ∀ n, 0 ≤ n → n < N → pcV f1 f2 f3 f4 f5 f6 f7 f8 H N n := by
  intro n n0 n1
  obtain ⟨b1, b2, b3, b4, b5⟩ := h.2.2.2.2 n n0 n1
  have e := hr n n0 n1
  rw [← e] at b1 b2 b3 b4
  refine ⟨b1.1, ?_, ⟨b3, b4⟩, b1.2, ?_⟩
  · rcases b2 with ⟨q, -⟩ | ⟨q, -⟩
    · have q : f8 n = 2 := q
      omega
    · have q : f8 n = 0 ∨ f8 n = 1 := q
      omega
  · intro z
    rcases b2 with ⟨q, -⟩ | ⟨-, q⟩
    · exact absurd q z
    · exact q
