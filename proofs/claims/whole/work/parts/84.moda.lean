/-! the reference's dashes and its subpaths -/
theorem ctS_e {g : SG} {t dd on rs N L : Int} {F : Int → Pc8} (h : rs ≤ g.l - t) (ho : on = 0 ∨ on = 1) : ctS g (t, dd, on, rs, N, L, F) = (t + rs, nxt g.nd dd, 1 - on, 256 * g.ln (nxt g.nd dd), if on = 1 then N + 1 else N, -1, if on = 1 then fend (fup F N (ctP g t (t + rs) L)) N 1 else fend F L 1) := by
  have e : min g.l (t + rs) = t + rs := by omega
  unfold ctS
  show ctE g (min g.l (t + rs)) (ctA g (min g.l (t + rs)) (t, dd, on, rs, N, L, F)) = _
  rw [e]
  rcases ho with o | o
  · subst o
    have e1 : ctA g (t + rs) (t, dd, 0, rs, N, L, F) = (t, dd, 0, rs, N, L, F) := if_neg (show ¬ (0 : Int) = 1 by decide)
    rw [e1, if_neg (by decide), if_neg (by decide)]
    exact if_pos (show rs - (t + rs - t) ≤ 0 by omega)
  · subst o
    have e1 : ctA g (t + rs) (t, dd, 1, rs, N, L, F) = (t, dd, 1, rs, N + 1, N, fup F N (ctP g t (t + rs) L)) := if_pos (show (1 : Int) = 1 from rfl)
    rw [e1, if_pos rfl, if_pos rfl]
    exact if_pos (show rs - (t + rs - t) ≤ 0 by omega)
theorem ctS_o {g : SG} {t dd on rs N L : Int} {F : Int → Pc8} (h : ¬ rs ≤ g.l - t) (ho : on = 0 ∨ on = 1) : ctS g (t, dd, on, rs, N, L, F) = (g.l, dd, on, rs - (g.l - t), if on = 1 then N + 1 else N, if on = 1 then N else L, if on = 1 then fup F N (ctP g t g.l L) else F) := by
  have e : min g.l (t + rs) = g.l := by omega
  unfold ctS
  show ctE g (min g.l (t + rs)) (ctA g (min g.l (t + rs)) (t, dd, on, rs, N, L, F)) = _
  rw [e]
  rcases ho with o | o
  · subst o
    have e1 : ctA g g.l (t, dd, 0, rs, N, L, F) = (t, dd, 0, rs, N, L, F) := if_neg (show ¬ (0 : Int) = 1 by decide)
    rw [e1, if_neg (by decide), if_neg (by decide), if_neg (by decide)]
    exact if_neg (show ¬ rs - (g.l - t) ≤ 0 by omega)
  · subst o
    have e1 : ctA g g.l (t, dd, 1, rs, N, L, F) = (t, dd, 1, rs, N + 1, N, fup F N (ctP g t g.l L)) := if_pos (show (1 : Int) = 1 from rfl)
    rw [e1, if_pos rfl, if_pos rfl, if_pos rfl]
    exact if_neg (show ¬ rs - (g.l - t) ≤ 0 by omega)
/-- one dash that ends within the segment -/
theorem md_in {g : SG} {fu : Nat} {t dd on rs N L : Int} {F : Int → Pc8} {CF : CS} (hC : ctM g fu (t, dd, on, rs, N, L, F) = CF) (hE : CF.t = g.l ∧ 0 < CF.rs) (h : rs ≤ g.l - t) (ht : t ≤ g.l) (hr : 0 ≤ rs) (ho : on = 0 ∨ on = 1) :
    ∃ k, fu = k + 1 ∧ ctM g k (t + rs, nxt g.nd dd, 1 - on, 256 * g.ln (nxt g.nd dd), if on = 1 then N + 1 else N, -1, if on = 1 then fend (fup F N (ctP g t (t + rs) L)) N 1 else fend F L 1) = CF := by
  cases fu with
  | zero =>
    exfalso
    have e : (t, dd, on, rs, N, L, F) = CF := hC
    rw [← e] at hE
    have h1 : t = g.l := hE.1
    have h2 : 0 < rs := hE.2
    omega
  | succ k =>
    refine ⟨k, rfl, ?_⟩
    have e : ctM g (k + 1) (t, dd, on, rs, N, L, F) = ctM g k (ctS g (t, dd, on, rs, N, L, F)) := if_pos (show t < g.l ∨ rs ≤ 0 by omega)
    rw [← hC, e, ctS_e h ho]
/-- the rest of the segment -/
theorem md_out {g : SG} {fu : Nat} {t dd on rs N L : Int} {F : Int → Pc8} {CF : CS} (hC : ctM g fu (t, dd, on, rs, N, L, F) = CF) (hE : CF.t = g.l ∧ 0 < CF.rs) (h : ¬ rs ≤ g.l - t) (ht : t ≤ g.l) (ho : on = 0 ∨ on = 1) :
    CF = (g.l, dd, on, rs - (g.l - t), if on = 1 ∧ t < g.l then N + 1 else N, if on = 1 ∧ t < g.l then N else L, if on = 1 ∧ t < g.l then fup F N (ctP g t g.l L) else F) := by
  by_cases q : t < g.l
  · cases fu with
    | zero =>
      exfalso
      have e : (t, dd, on, rs, N, L, F) = CF := hC
      rw [← e] at hE
      have h1 : t = g.l := hE.1
      omega
    | succ k =>
      have e : ctM g (k + 1) (t, dd, on, rs, N, L, F) = ctM g k (ctS g (t, dd, on, rs, N, L, F)) := if_pos (show t < g.l ∨ rs ≤ 0 by omega)
      rw [← hC, e, ctS_o h ho, ctM_stop (show ¬ (g.l < g.l ∨ rs - (g.l - t) ≤ 0) by omega)]
      by_cases o : on = 1
      · rw [if_pos o, if_pos o, if_pos o, if_pos ⟨o, q⟩, if_pos ⟨o, q⟩, if_pos ⟨o, q⟩]
      · rw [if_neg o, if_neg o, if_neg o, if_neg (fun z => o z.1), if_neg (fun z => o z.1), if_neg (fun z => o z.1)]
  · have e : t = g.l := by omega
    subst e
    rw [← hC, ctM_stop (show ¬ (g.l < g.l ∨ rs ≤ 0) by omega), if_neg (by omega), if_neg (by omega), if_neg (by omega)]
    rw [show rs - (g.l - g.l) = rs by omega]
theorem fend_m1 (F : Int → Pc8) (k : Int) : fend F (-1) k = F := if_neg (by omega)
/-- a piece that ends its chain at once -/
theorem mo_one {a : MA} {F : Int → Pc8} {N L v1 v2 v3 v4 v5 v6 f : Int} (h : moR a F N L) (hf : (f = 1 ∧ L < 0) ∨ (f = 0 ∧ ¬ L < 0)) : moR (maE (maU a N v1 v2 v3 v4 v5 v6 f 0) N) (fend (fup F N (v1, v2, v3, v4, v5, v6, L, 0)) N 1) (N + 1) (-1) := mo_end (mo_add h hf) h.1
/-- where a segment's dashes stand: exactly, or there are too many pieces -/
def moS (a : MA) (dd on rs N L : Int) (F : Int → Pc8) (P d o r ic : Int) : Prop := (N ≤ 2001 ∧ P = N ∧ moR a F N L ∧ d = dd ∧ o = on ∧ r = rs ∧ ((ic = 1 ∧ 0 ≤ L) ∨ (ic = 0 ∧ L < 0))) ∨ (P = 2001 ∧ 2001 ≤ N)
/-- ... between subpaths -/
def moT (a : MA) (N : Int) (F : Int → Pc8) (P : Int) : Prop := (N ≤ 2001 ∧ P = N ∧ moR a F N (-1)) ∨ (P = 2001 ∧ 2001 ≤ N)
theorem moT_0 {a : MA} {F : Int → Pc8} : moT a 0 F 0 := Or.inl ⟨by omega, rfl, moR_0⟩
theorem moT_P {a : MA} {F : Int → Pc8} {N P : Int} (h : moT a N F P) : 0 ≤ P ∧ P ≤ 2001 := by
  rcases h with ⟨h1, h2, h3, -⟩ | h <;> omega
theorem moS_P {a : MA} {dd on rs N L P d o r ic : Int} {F : Int → Pc8} (h : moS a dd on rs N L F P d o r ic) : 0 ≤ P ∧ P ≤ 2001 := by
  rcases h with ⟨h1, h2, h3, -⟩ | h
  · have := h3.1; omega
  · omega
/-- the end of a subpath that goes on -/
theorem sbD_1 {w : SW} {fv bv shv N L : Int} {F : Int → Pc8} {FC : CS} (ht : FC.t = 1) : sbD w fv bv shv N FC.t FC.N FC.L FC.F = sbC shv w.wl N FC.N FC.L FC.F := by
  unfold sbD
  rw [if_neg (by rw [ht]; omega)]
theorem sbC_m1 {shv wl bg N : Int} {F : Int → Pc8} : sbC shv wl bg N (-1) F = (N, F) := by
  unfold sbC
  have e1 : clF F bg (-1) = F := if_neg (by omega)
  have e2 : clL bg (-1) = -1 := if_neg (by omega)
  split
  · rw [e1, e2, fend_m1]
  · rw [fend_m1]
theorem sbC_dash {shv wl bg N L : Int} {F : Int → Pc8} (h : 0 < wl) : sbC shv wl bg N L F = (N, fend F L 1) := by
  unfold sbC
  rw [if_neg (fun q => q.2 h)]
theorem sbC_open {shv wl bg N L : Int} {F : Int → Pc8} (h : ¬ shv = 1) : sbC shv wl bg N L F = (N, fend F L 1) := by
  unfold sbC
  rw [if_neg (fun q => h q.1)]
theorem sbC_shut {shv wl bg N L : Int} {F : Int → Pc8} (h : shv = 1) (hw : ¬ 0 < wl) (hL : 0 ≤ L ∧ bg ≤ L) : sbC shv wl bg N L F = (N, clF F bg L) := by
  unfold sbC
  have e2 : clL bg L = -1 := if_pos hL
  rw [if_pos ⟨h, hw⟩, e2, fend_m1]
/-- a plain piece -/
theorem plP {w : SW} {x1 y1 x2 y2 L : Int} (h : ¬ (x2 - x1 = 0 ∧ y2 - y1 = 0)) (hx : -16383 ≤ x2 - x1 ∧ x2 - x1 ≤ 16383) (hy : -16383 ≤ y2 - y1 ∧ y2 - y1 ≤ 16383) : ctP (sgm w x1 y1 x2 y2) 0 (sgm w x1 y1 x2 y2).l L = (16 * x1, 16 * y1, 16 * x2, 16 * y2, sgX w.hf (x2 - x1) (y2 - y1), sgY w.hf (x2 - x1) (y2 - y1), L, 0) := by
  have hl := (sgL_bd h hx hy).1
  show (fnA (sgL (x2 - x1) (y2 - y1)) x1 (x2 - x1) 0, fnA (sgL (x2 - x1) (y2 - y1)) y1 (y2 - y1) 0, fnA (sgL (x2 - x1) (y2 - y1)) x1 (x2 - x1) (sgL (x2 - x1) (y2 - y1)), fnA (sgL (x2 - x1) (y2 - y1)) y1 (y2 - y1) (sgL (x2 - x1) (y2 - y1)), _, _, L, (0 : Int)) = _
  rw [fnA_0 hl, fnA_0 hl, fnA_l hl, fnA_l hl, show x1 + (x2 - x1) = x2 by omega, show y1 + (y2 - y1) = y2 by omega]
  rfl
theorem sgD_go {w : SW} {lx ly : Int → Int} {m n k : Int} {c : CS} (h : k < n) : sgD w lx ly m (n - k).toNat k c = sgD w lx ly m (n - (k + 1)).toNat (k + 1) (sgT w (lx k) (ly k) (lx (nxt m k)) (ly (nxt m k)) c) := by
  have e : (n - k).toNat = (n - (k + 1)).toNat + 1 := by omega
  rw [e]
  rfl
theorem sgD_N (w : SW) (lx ly : Int → Int) (m : Int) : ∀ (n : Nat) (k : Int) (c : CS), c.N ≤ (sgD w lx ly m n k c).N := by
  intro n
  induction n with
  | zero => intro k c; exact Int.le_refl _
  | succ n ih => intro k c; exact Int.le_trans (sgT_N _ _ _ _ _ _) (ih _ _)
theorem sgD_t1 (w : SW) (lx ly : Int → Int) (m : Int) : ∀ (n : Nat) (k : Int) (c : CS), c.t = 1 → (sgD w lx ly m n k c).t = 1 := by
  intro n
  induction n with
  | zero => intro k c h; exact h
  | succ n ih => intro k c h; exact ih _ _ (sgT_t h)
