/-! roots and offsets as functions; a subpath -/
def rtF : Nat → Int
  | 0 => 0
  | n + 1 => if (rtF n + 1) * (rtF n + 1) ≤ (n : Int) + 1 then rtF n + 1 else rtF n
theorem rtF_ok : ∀ n : Nat, isRt (n : Int) (rtF n) := by
  intro n
  induction n with
  | zero => exact ⟨Int.le_refl _, by decide, by decide⟩
  | succ n ih =>
    obtain ⟨h0, h1, h2⟩ := ih
    unfold rtF
    generalize rtF n = z at *
    split
    · rename_i q
      refine ⟨by omega, by omega, ?_⟩
      have e : (z + 1 + 1) * (z + 1 + 1) = (z + 1) * (z + 1) + 2 * z + 3 := by grind
      omega
    · rename_i q
      exact ⟨h0, by omega, by omega⟩
def rt (n : Int) : Int := rtF n.toNat
theorem rt_ok {n : Int} (h : 0 ≤ n) : isRt n (rt n) := by
  have := rtF_ok n.toNat
  rw [Int.toNat_of_nonneg h] at this
  exact this
theorem rt_eq {n z : Int} (h : isRt n z) : z = rt n := isRt_uniq h (rt_ok (by have := h.2.1; have := sq_nn z; omega))
def ofI (H al sq : Int) : Int := (rt ((2 * H * al) * (2 * H * al) / sq) + 1) / 2
theorem ofI_ok {H al sq : Int} (hs : 0 < sq) : isOff H al sq (ofI H al sq) := isOff_root hs (rt_ok (Int.ediv_nonneg (sq_nn _) (by omega)))
theorem ofI_eq {H al sq k : Int} (hs : 0 < sq) (h : isOff H al sq k) : k = ofI H al sq := isOff_uniq hs h (ofI_ok hs)
def sgX (H dx dy : Int) : Int := if dy < 0 then -ofI H dy (dx * dx + dy * dy) else ofI H dy (dx * dx + dy * dy)
def sgY (H dx dy : Int) : Int := -(if dx < 0 then -ofI H dx (dx * dx + dy * dy) else ofI H dx (dx * dx + dy * dy))
def sgL (dx dy : Int) : Int := rt (65536 * (dx * dx + dy * dy))
theorem sgO_fn {H dx dy a b : Int} (h : ¬ (dx = 0 ∧ dy = 0)) (h1 : sgO H dx dy a b) : a = sgX H dx dy ∧ b = sgY H dx dy := by
  obtain ⟨u, v, p1, p2, -, -, p3, p4⟩ := h1
  have e1 := ofI_eq (sq_pos h) p1
  have e2 := ofI_eq (sq_pos h) p2
  unfold sgX sgY
  subst e1 e2
  exact ⟨p3, p4⟩
theorem sgL_bd {dx dy : Int} (h : ¬ (dx = 0 ∧ dy = 0)) (hx : -16383 ≤ dx ∧ dx ≤ 16383) (hy : -16383 ≤ dy ∧ dy ≤ 16383) : 0 < sgL dx dy ∧ sgL dx dy ≤ 6000000 := by
  have hp := sq_pos h
  have m1 := mul_bd (a := dx) (b := dx) (A := 16383) (B := 16383) hx hx
  have m2 := mul_bd (a := dy) (b := dy) (A := 16383) (B := 16383) hy hy
  have hr := rt_ok (n := 65536 * (dx * dx + dy * dy)) (by omega)
  have hl := isRt_le (M := 6000000) hr (by omega) (by omega)
  unfold sgL
  obtain ⟨h0, h1, h2⟩ := hr
  refine ⟨?_, hl⟩
  rcases Int.lt_or_le 0 (rt (65536 * (dx * dx + dy * dy))) with q | q
  · exact q
  · rw [show rt (65536 * (dx * dx + dy * dy)) = 0 by omega] at h2
    omega
abbrev SW : Type := (Int → Int) × (Int → Int) × Int × Int × (Int → Int) × Int × Nat
abbrev SW.px (c : SW) : Int → Int := c.1
abbrev SW.py (c : SW) : Int → Int := c.2.1
abbrev SW.hf (c : SW) : Int := c.2.2.1
abbrev SW.nd (c : SW) : Int := c.2.2.2.1
abbrev SW.ln (c : SW) : Int → Int := c.2.2.2.2.1
abbrev SW.wl (c : SW) : Int := c.2.2.2.2.2.1
abbrev SW.fl (c : SW) : Nat := c.2.2.2.2.2.2
/-- the segment from point i to point j -/
def sgm (w : SW) (x1 y1 x2 y2 : Int) : SG := (sgL (x2 - x1) (y2 - y1), x1, y1, x2 - x1, y2 - y1, sgX w.hf (x2 - x1) (y2 - y1), sgY w.hf (x2 - x1) (y2 - y1), w.nd, w.ln)
def sgT (w : SW) (x1 y1 x2 y2 : Int) (c : CS) : CS :=
  if x2 - x1 = 0 ∧ y2 - y1 = 0 then c
  else if 0 < w.wl then (1, (ctM (sgm w x1 y1 x2 y2) w.fl (0, c.dd, c.on, c.rs, c.N, c.L, c.F)).2)
  else (1, c.dd, c.on, c.rs, c.N + 1, c.N, fup c.F c.N (ctP (sgm w x1 y1 x2 y2) 0 (sgm w x1 y1 x2 y2).l c.L))
/-- n segments, the next one ending at point i -/
def sgs (w : SW) (fv bv : Int) : Nat → Int → CS → CS
  | 0, _, c => c
  | n + 1, i, c => sgs w fv bv n (i + 1) (sgT w (w.px (i - 1)) (w.py (i - 1)) (w.px (if i < bv then i else fv)) (w.py (if i < bv then i else fv)) c)
theorem sgT_N (w : SW) (x1 y1 x2 y2 : Int) (c : CS) : c.N ≤ (sgT w x1 y1 x2 y2 c).N := by
  unfold sgT
  split
  · exact Int.le_refl _
  · split
    · exact ctM_N _ _ (0, c.dd, c.on, c.rs, c.N, c.L, c.F)
    · show c.N ≤ c.N + 1; omega
theorem sgs_N (w : SW) (fv bv : Int) : ∀ (n : Nat) (i : Int) (c : CS), c.N ≤ (sgs w fv bv n i c).N := by
  intro n
  induction n with
  | zero => intro i c; exact Int.le_refl _
  | succ n ih => intro i c; exact Int.le_trans (sgT_N _ _ _ _ _ _) (ih _ _)
theorem sgs_go {w : SW} {fv bv i lst : Int} {c : CS} (h : i ≤ lst) : sgs w fv bv (lst + 1 - i).toNat i c = sgs w fv bv (lst + 1 - (i + 1)).toNat (i + 1) (sgT w (w.px (i - 1)) (w.py (i - 1)) (w.px (if i < bv then i else fv)) (w.py (if i < bv then i else fv)) c) := by
  have e : (lst + 1 - i).toNat = (lst + 1 - (i + 1)).toNat + 1 := by omega
  rw [e]
  rfl
/-- closing a chain that began at k -/
def clF (F : Int → Pc8) (k L : Int) : Int → Pc8 := if 0 ≤ L ∧ k ≤ L then fup F k (fbf (F k) L) else F
def clL (k L : Int) : Int := if 0 ≤ L ∧ k ≤ L then -1 else L
theorem wk_close {f1 f2 f3 f4 f5 f6 f7 f8 : Int → Int} {hd fu la N L k : Int} {F : Int → Pc8} (h : wkS f1 f2 f3 f4 f5 f6 f7 f8 hd fu la N L F) (hk : 0 ≤ k) : wkS f1 f2 f3 f4 f5 f6 (if 0 ≤ la ∧ k ≤ la then zup f7 k la else f7) f8 hd fu (if 0 ≤ la ∧ k ≤ la then -1 else la) N (clL k L) (clF F k L) := by
  rcases h with ⟨q, e1, e2, h0, h1, h2, h3, hr⟩ | ⟨q1, q2, q3, q4⟩
  · subst e1 e2
    unfold clL clF
    by_cases e : 0 ≤ la ∧ k ≤ la
    · rw [if_pos e, if_pos e, if_pos e]
      refine Or.inl ⟨q, rfl, rfl, h0, h1, by omega, by omega, ?_⟩
      intro j j0 j1
      unfold fup zup
      by_cases e2 : j = k
      · rw [if_pos e2, if_pos e2]
        have h9 := hr k hk (by omega)
        rw [← h9, e2]
        rfl
      · rw [if_neg e2, if_neg e2]
        exact hr j j0 j1
    · rw [if_neg e, if_neg e, if_neg e]
      exact Or.inl ⟨q, rfl, rfl, h0, h1, h2, h3, hr⟩
  · exact Or.inr ⟨q1, q2, by rw [if_neg (by omega)]; exact q3, q4⟩
theorem wk_dot {f1 f2 f3 f4 f5 f6 f7 f8 g1 g2 g3 g4 g5 g6 g7 g8 : Int → Int} {hd fu la hd2 fu2 N L v1 v2 v3 v4 v5 v6 : Int} {F : Int → Pc8} (h : wkS f1 f2 f3 f4 f5 f6 f7 f8 hd fu la N L F) (hfu : fu = 0)
    (hp : (hd < 2000 ∧ fu2 = 0 ∧ hd2 = hd + 1 ∧ (∀ j, 0 ≤ j → j < hd → g1 j = f1 j) ∧ g1 hd = v1 ∧ (∀ j, 0 ≤ j → j < hd → g2 j = f2 j) ∧ g2 hd = v2 ∧ (∀ j, 0 ≤ j → j < hd → g3 j = f3 j) ∧ g3 hd = v3 ∧ (∀ j, 0 ≤ j → j < hd → g4 j = f4 j) ∧ g4 hd = v4 ∧ (∀ j, 0 ≤ j → j < hd → g5 j = f5 j) ∧ g5 hd = v5 ∧ (∀ j, 0 ≤ j → j < hd → g6 j = f6 j) ∧ g6 hd = v6 ∧ (∀ j, 0 ≤ j → j < hd → g7 j = f7 j) ∧ g7 hd = la ∧ (∀ j, 0 ≤ j → j < hd → g8 j = f8 j) ∧ g8 hd = 2) ∨ (hd = 2000 ∧ fu2 = 1 ∧ hd2 = 0)) : wkS g1 g2 g3 g4 g5 g6 g7 g8 hd2 fu2 (-1) (N + 1) (-1) (fup F N (v1, v2, v3, v4, v5, v6, L, 2)) := by
  rcases h with ⟨-, e1, e2, h0, h1, h2, h3, hr⟩ | ⟨q, -⟩
  · subst e1 e2
    rcases hp with ⟨p0, pf, ph, a1, b1, a2, b2, a3, b3, a4, b4, a5, b5, a6, b6, a7, b7, a8, b8⟩ | ⟨p0, p1, p2⟩
    · refine Or.inl ⟨pf, ph, rfl, by omega, by omega, by omega, by omega, ?_⟩
      intro j j0 j1
      unfold fup
      by_cases e : j = hd
      · rw [if_pos e, e, b1, b2, b3, b4, b5, b6, b7, b8]
      · rw [if_neg e, a1 j j0 (by omega), a2 j j0 (by omega), a3 j j0 (by omega), a4 j j0 (by omega), a5 j j0 (by omega), a6 j j0 (by omega), a7 j j0 (by omega), a8 j j0 (by omega)]
        exact hr j j0 (by omega)
    · exact Or.inr ⟨p1, p2, rfl, by omega⟩
  · omega
/-- how a subpath ends -/
def sbC (shv wl bg N L : Int) (F : Int → Pc8) : Int × (Int → Pc8) := if shv = 1 ∧ ¬ 0 < wl then (N, fend (clF F bg L) (clL bg L) 1) else (N, fend F L 1)
def sbD (w : SW) (fv bv shv bg mv N L : Int) (F : Int → Pc8) : Int × (Int → Pc8) := if mv = 0 ∧ (shv = 1 ∨ 1 < bv - fv) then sbC shv w.wl bg (N + 1) (-1) (fup F N (16 * w.px fv, 16 * w.py fv, 16 * w.px fv, 16 * w.py fv, 0, 0, L, 2)) else sbC shv w.wl bg N L F
def sbL (bv shv : Int) : Int := if shv = 1 then bv else bv - 1
def subM (w : SW) (fv bv shv sd so sr N : Int) (F : Int → Pc8) : Int × (Int → Pc8) :=
  sbD w fv bv shv N (sgs w fv bv (sbL bv shv - fv).toNat (fv + 1) (0, sd, so, sr, N, -1, F)).t (sgs w fv bv (sbL bv shv - fv).toNat (fv + 1) (0, sd, so, sr, N, -1, F)).N (sgs w fv bv (sbL bv shv - fv).toNat (fv + 1) (0, sd, so, sr, N, -1, F)).L (sgs w fv bv (sbL bv shv - fv).toNat (fv + 1) (0, sd, so, sr, N, -1, F)).F
theorem sbC_N {shv wl bg N L : Int} {F : Int → Pc8} : (sbC shv wl bg N L F).1 = N := by
  unfold sbC
  split <;> rfl
theorem sbD_N {w : SW} {fv bv shv bg mv N L : Int} {F : Int → Pc8} : N ≤ (sbD w fv bv shv bg mv N L F).1 := by
  unfold sbD
  split
  · rw [sbC_N]; omega
  · rw [sbC_N]; exact Int.le_refl _
theorem subM_N {w : SW} {fv bv shv sd so sr N : Int} {F : Int → Pc8} : N ≤ (subM w fv bv shv sd so sr N F).1 := Int.le_trans (sgs_N w fv bv _ _ (0, sd, so, sr, N, -1, F)) sbD_N
/-- what the dashes' state keeps -/
def dsB (nd dd on rs : Int) : Prop := (0 ≤ dd ∧ dd < nd) ∧ (on = 0 ∨ on = 1) ∧ (0 ≤ rs ∧ rs ≤ 2097152)
theorem ctS_bd {g : SG} {c : CS} (hln : ∀ j, 0 ≤ j → j < g.nd → 0 ≤ g.ln j ∧ g.ln j ≤ 8192) (h : dsB g.nd c.dd c.on c.rs) (ht : c.t ≤ g.l) : dsB g.nd (ctS g c).dd (ctS g c).on (ctS g c).rs ∧ (ctS g c).t ≤ g.l := by
  obtain ⟨t, dd, on, rs, N, L, F⟩ := c
  obtain ⟨⟨a1, a2⟩, b, d1, d2⟩ := h
  have ht : t ≤ g.l := ht
  have a1 : 0 ≤ dd := a1
  have a2 : dd < g.nd := a2
  have b : on = 0 ∨ on = 1 := b
  have d1 : 0 ≤ rs := d1
  have d2 : rs ≤ 2097152 := d2
  have key : ∀ N2 L2 F2, dsB g.nd (ctE g (min g.l (t + rs)) (t, dd, on, rs, N2, L2, F2)).dd (ctE g (min g.l (t + rs)) (t, dd, on, rs, N2, L2, F2)).on (ctE g (min g.l (t + rs)) (t, dd, on, rs, N2, L2, F2)).rs ∧ (ctE g (min g.l (t + rs)) (t, dd, on, rs, N2, L2, F2)).t ≤ g.l := by
    intro N2 L2 F2
    have hnx : 0 ≤ nxt g.nd dd ∧ nxt g.nd dd < g.nd := by unfold nxt; split <;> omega
    have hl2 := hln _ hnx.1 hnx.2
    by_cases q : rs - (min g.l (t + rs) - t) ≤ 0
    · rw [ctE_e q rfl]
      refine ⟨⟨hnx, ?_, ?_⟩, ?_⟩
      · show 1 - on = 0 ∨ 1 - on = 1; omega
      · show 0 ≤ 256 * g.ln (nxt g.nd dd) ∧ 256 * g.ln (nxt g.nd dd) ≤ 2097152; omega
      · show min g.l (t + rs) ≤ g.l; omega
    · rw [ctE_on q]
      refine ⟨⟨⟨a1, a2⟩, b, ?_⟩, ?_⟩
      · show 0 ≤ rs - (min g.l (t + rs) - t) ∧ rs - (min g.l (t + rs) - t) ≤ 2097152; omega
      · show min g.l (t + rs) ≤ g.l; omega
  by_cases o : on = 1
  · rw [ctS_on o rfl]; exact key _ _ _
  · rw [ctS_off o rfl]; exact key _ _ _
theorem ctM_bd {g : SG} (hln : ∀ j, 0 ≤ j → j < g.nd → 0 ≤ g.ln j ∧ g.ln j ≤ 8192) : ∀ (n : Nat) (c : CS), dsB g.nd c.dd c.on c.rs → c.t ≤ g.l → dsB g.nd (ctM g n c).dd (ctM g n c).on (ctM g n c).rs ∧ (ctM g n c).t ≤ g.l := by
  intro n
  induction n with
  | zero => intro c h ht; exact ⟨h, ht⟩
  | succ n ih =>
    intro c h ht
    unfold ctM
    split
    · obtain ⟨a, b⟩ := ctS_bd hln h ht
      exact ih _ a b
    · exact ⟨h, ht⟩
theorem sgT_cut {w : SW} {x1 y1 x2 y2 mv dd on rs N L : Int} {F : Int → Pc8} {CF : CS} (h : ¬ (x2 - x1 = 0 ∧ y2 - y1 = 0)) (hw : 0 < w.wl) (hC : ctM (sgm w x1 y1 x2 y2) w.fl (0, dd, on, rs, N, L, F) = CF) : sgT w x1 y1 x2 y2 (mv, dd, on, rs, N, L, F) = (1, CF.dd, CF.on, CF.rs, CF.N, CF.L, CF.F) := by
  unfold sgT
  rw [if_neg h, if_pos hw, ← hC]
theorem sgT_pl {w : SW} {x1 y1 x2 y2 mv dd on rs N L : Int} {F : Int → Pc8} (h : ¬ (x2 - x1 = 0 ∧ y2 - y1 = 0)) (hw : ¬ 0 < w.wl) : sgT w x1 y1 x2 y2 (mv, dd, on, rs, N, L, F) = (1, dd, on, rs, N + 1, N, fup F N (ctP (sgm w x1 y1 x2 y2) 0 (sgm w x1 y1 x2 y2).l L)) := by
  unfold sgT
  rw [if_neg h, if_neg hw]
theorem sgT_no {w : SW} {x1 y1 x2 y2 : Int} {c : CS} (h : x2 - x1 = 0 ∧ y2 - y1 = 0) : sgT w x1 y1 x2 y2 c = c := if_pos h
theorem sgT_t {w : SW} {x1 y1 x2 y2 : Int} {c : CS} (h : c.t = 1) : (sgT w x1 y1 x2 y2 c).t = 1 := by
  unfold sgT
  split
  · exact h
  · split <;> rfl
theorem sgs_t1 (w : SW) (fv bv : Int) : ∀ (n : Nat) (i : Int) (c : CS), c.t = 1 → (sgs w fv bv n i c).t = 1 := by
  intro n
  induction n with
  | zero => intro i c h; exact h
  | succ n ih => intro i c h; exact ih _ _ (sgT_t h)
theorem sgs_t {w : SW} {fv bv i mv dd on rs N L : Int} {n : Nat} {F : Int → Pc8} {FC : CS} (h : mv = 1) (hc : sgs w fv bv n i (mv, dd, on, rs, N, L, F) = FC) : FC.t = 1 := by
  rw [← hc]
  exact sgs_t1 w fv bv n i _ h
theorem sgs_N2 {w : SW} {fv bv i : Int} {n : Nat} {c c2 FC : CS} (hc : sgs w fv bv n i c = FC) (h : c = c2) : c2.N ≤ FC.N := by
  rw [← hc, h]
  exact sgs_N w fv bv n i c2
