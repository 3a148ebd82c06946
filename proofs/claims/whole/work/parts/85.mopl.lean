/-! the reference: plain subpaths, the phase, congruence -/
def plS (shv N Nk Lk : Int) (a : MA) (F : Int → Pc8) (p : Int) : Prop :=
  (shv = 1 ∧ Nk ≤ 2001 ∧ p = Nk ∧ moC a F N Nk ∧ Lk = (if Nk = N then -1 else Nk - 1)) ∨ (¬ shv = 1 ∧ Nk ≤ 2001 ∧ p = Nk ∧ moR a F Nk Lk ∧ (Lk < 0 ↔ Nk = N)) ∨ (p = 2001 ∧ 2001 ≤ Nk)
theorem pl_0 {shv N P : Int} {a : MA} {F : Int → Pc8} (h : moT a N F P) : plS shv N N (-1) a F P := by
  rcases h with ⟨h1, h2, h3⟩ | h
  · by_cases q : shv = 1
    · exact Or.inl ⟨q, h1, h2, mo_C0 h3, by rw [if_pos rfl]⟩
    · exact Or.inr (Or.inl ⟨q, h1, h2, h3, ⟨fun _ => rfl, fun _ => by omega⟩⟩)
  · exact Or.inr (Or.inr h)
/-- what 'piece' leaves -/
def pcR (a g : MA) (p p2 v1 v2 v3 v4 v5 v6 f : Int) : Prop := (p < 2001 ∧ p2 = p + 1 ∧ g = maU a p v1 v2 v3 v4 v5 v6 f 0) ∨ (p = 2001 ∧ p2 = 2001 ∧ g = a)
theorem pl_add {shv N Nk Lk p p2 v1 v2 v3 v4 v5 v6 f : Int} {a g : MA} {F : Int → Pc8} (h : plS shv N Nk Lk a F p) (hN : N ≤ Nk) (hg : pcR a g p p2 v1 v2 v3 v4 v5 v6 f) (hf : (f = 1 ∧ Nk = N ∧ ¬ shv = 1) ∨ (f = 0 ∧ ¬ (Nk = N ∧ ¬ shv = 1))) : plS shv N (Nk + 1) Nk g (fup F Nk (v1, v2, v3, v4, v5, v6, Lk, 0)) p2 := by
  rcases hg with ⟨g1, g2, g3⟩ | ⟨g1, g2, g3⟩
  · subst g3
    rcases h with ⟨q, h1, h2, h3, h4⟩ | ⟨q, h1, h2, h3, h4⟩ | ⟨h1, h2⟩
    · subst h2
      have e : f = 0 := by omega
      subst e
      refine Or.inl ⟨q, by omega, by omega, mo_Cadd h3 h4, by rw [if_neg (by omega)]; omega⟩
    · subst h2
      refine Or.inr (Or.inl ⟨q, by omega, by omega, mo_add h3 (by omega), ⟨fun z => by have := h3.1; omega, fun z => by omega⟩⟩)
    · omega
  · refine Or.inr (Or.inr ⟨g2, ?_⟩)
    rcases h with ⟨q, h1, h2, h3, h4⟩ | ⟨q, h1, h2, h3, h4⟩ | ⟨h1, h2⟩ <;> omega
theorem zup_id {f : Int → Int} {k v : Int} (h : f k = v) : zup f k v = f := by
  funext j
  unfold zup
  split
  · rename_i q; rw [q, h]
  · rfl
/-- the end of an open one -/
theorem pl_open {shv N Nk Lk p : Int} {a : MA} {F : Int → Pc8} (h : plS shv N Nk Lk a F p) (hs : ¬ shv = 1) (hN : N < Nk) : moT (a.1, a.2.1, a.2.2.1, a.2.2.2.1, a.2.2.2.2.1, a.2.2.2.2.2.1, a.IF, zup a.IL (p - 1) 1, zup a.CA (p - 1) (-1), a.ID) Nk (fend F Lk 1) p := by
  rcases h with ⟨q, -⟩ | ⟨q, h1, h2, h3, h4⟩ | h
  · exact absurd q hs
  · subst h2
    have hL : ¬ Lk < 0 := fun z => by have := h4.mp z; omega
    obtain ⟨z1, z2, z3, z4⟩ : Lk = p - 1 ∧ 0 ≤ Lk ∧ a.CA Lk = -1 ∧ pcKd (F Lk) = 0 := by have := h3.2.1; omega
    have e := mo_end h3 (by omega)
    rw [← z1, zup_id z3]
    exact Or.inl ⟨h1, rfl, e⟩
  · exact Or.inr h
theorem pl_shut {shv N Nk Lk p P : Int} {a : MA} {F : Int → Pc8} (h : plS shv N Nk Lk a F p) (hs : shv = 1) (hN : N < Nk) (hP : p = Nk → P = N) : moT (a.1, a.2.1, a.2.2.1, a.2.2.2.1, a.2.2.2.2.1, a.2.2.2.2.2.1, a.IF, zup a.IL (p - 1) 0, zup a.CA (p - 1) P, a.ID) Nk (clF F N Lk) p := by
  rcases h with ⟨q, h1, h2, h3, h4⟩ | ⟨q, -⟩ | h
  · subst h2
    rw [if_neg (by omega)] at h4
    subst h4
    rw [hP rfl]
    exact Or.inl ⟨h1, rfl, mo_close h3 hN⟩
  · exact absurd hs q
  · exact Or.inr h
theorem pl_none {shv N Nk Lk p P : Int} {a b : MA} {F G : Int → Pc8} (h : plS shv N Nk Lk a F p) (hN : N < Nk) (hT : moT b N G P) (hp : p ≤ P) : moT a Nk F p ∧ p = 2001 ∧ 2001 ≤ Nk := by
  have hP := moT_P hT
  rcases h with ⟨q, h1, h2, h3, h4⟩ | ⟨q, h1, h2, h3, h4⟩ | h
  · rcases hT with z | z <;> omega
  · rcases hT with z | z <;> omega
  · exact ⟨Or.inr h, h⟩
theorem pl_P {shv N Nk Lk p : Int} {a : MA} {F : Int → Pc8} (h : plS shv N Nk Lk a F p) (hN : 0 ≤ N ∧ N ≤ Nk) : 0 ≤ p ∧ p ≤ 2001 := by
  rcases h with ⟨q, h1, h2, -⟩ | ⟨q, h1, h2, -⟩ | h <;> omega
/-- the phase, dash by dash -/
theorem ph_in {nd o d w : Int} {ln : Int → Int} {fu : Nat} {PF : Int × Int × Int} (h : phM nd ln fu o d w = PF) (hE : ¬ ln PF.2.1 ≤ PF.1) (hq : ln d ≤ o) : ∃ k, fu = k + 1 ∧ phM nd ln k (o - ln d) (nxt nd d) (1 - w) = PF := by
  cases fu with
  | zero =>
    exfalso
    have e : (o, d, w) = PF := h
    rw [← e] at hE
    exact hE hq
  | succ k => exact ⟨k, rfl, by rw [← h]; exact (if_pos hq).symm⟩
theorem ph_out {nd o d w : Int} {ln : Int → Int} {fu : Nat} {PF : Int × Int × Int} (h : phM nd ln fu o d w = PF) (hq : ¬ ln d ≤ o) : PF = (o, d, w) := by
  rw [← h]; exact phM_stop hq
/-! functions that agree where they are looked at -/
theorem phM_cg {nd : Int} {l1 l2 : Int → Int} (hl : ∀ j, 0 ≤ j → j < nd → l1 j = l2 j) : ∀ (n : Nat) (o d w : Int), 0 ≤ d → d < nd → phM nd l1 n o d w = phM nd l2 n o d w := by
  intro n
  induction n with
  | zero => intro o d w _ _; rfl
  | succ n ih =>
    intro o d w h0 h1
    have hn : 0 ≤ nxt nd d ∧ nxt nd d < nd := by unfold nxt; split <;> omega
    show (if l1 d ≤ o then phM nd l1 n (o - l1 d) (nxt nd d) (1 - w) else (o, d, w)) = (if l2 d ≤ o then phM nd l2 n (o - l2 d) (nxt nd d) (1 - w) else (o, d, w))
    rw [hl d h0 h1, ih _ _ _ hn.1 hn.2]
theorem sm_cg {l1 l2 : Int → Int} : ∀ n : Nat, (∀ j, 0 ≤ j → j < (n : Int) → l1 j = l2 j) → sm l1 n = sm l2 n := by
  intro n
  induction n with
  | zero => intro _; rfl
  | succ n ih => intro h; show sm l1 n + l1 n = sm l2 n + l2 n; rw [ih (fun j a b => h j a (by omega)), h n (by omega) (by omega)]
abbrev sgl (g : SG) (l2 : Int → Int) : SG := (g.1, g.2.1, g.2.2.1, g.2.2.2.1, g.2.2.2.2.1, g.2.2.2.2.2.1, g.2.2.2.2.2.2.1, g.2.2.2.2.2.2.2.1, l2)
theorem ctS_cg {g : SG} {l2 : Int → Int} {c : CS} (hl : ∀ j, 0 ≤ j → j < g.nd → g.ln j = l2 j) (hd : 0 ≤ c.dd ∧ c.dd < g.nd) : ctS (sgl g l2) c = ctS g c := by
  have hn : 0 ≤ nxt g.nd c.dd ∧ nxt g.nd c.dd < g.nd := by unfold nxt; split <;> omega
  have e := hl _ hn.1 hn.2
  have eA : ctA (sgl g l2) (min g.l (c.t + c.rs)) c = ctA g (min g.l (c.t + c.rs)) c := rfl
  show ctE (sgl g l2) (min g.l (c.t + c.rs)) (ctA (sgl g l2) (min g.l (c.t + c.rs)) c) = ctE g (min g.l (c.t + c.rs)) (ctA g (min g.l (c.t + c.rs)) c)
  rw [eA]
  have ed : (ctA g (min g.l (c.t + c.rs)) c).dd = c.dd := by unfold ctA; split <;> rfl
  generalize ctA g (min g.l (c.t + c.rs)) c = d at ed
  unfold ctE
  show (if d.rs - (min g.l (c.t + c.rs) - d.t) ≤ 0 then (_, nxt g.nd d.dd, 1 - d.on, 256 * l2 (nxt g.nd d.dd), d.N, (-1 : Int), fend d.F d.L 1) else _) = _
  rw [ed, ← e]
theorem ctS_dd {g : SG} {c : CS} (hd : 0 ≤ c.dd ∧ c.dd < g.nd) : 0 ≤ (ctS g c).dd ∧ (ctS g c).dd < g.nd := by
  have hn : 0 ≤ nxt g.nd c.dd ∧ nxt g.nd c.dd < g.nd := by unfold nxt; split <;> omega
  have ed : (ctA g (min g.l (c.t + c.rs)) c).dd = c.dd := by unfold ctA; split <;> rfl
  show 0 ≤ (ctE g (min g.l (c.t + c.rs)) (ctA g (min g.l (c.t + c.rs)) c)).dd ∧ (ctE g (min g.l (c.t + c.rs)) (ctA g (min g.l (c.t + c.rs)) c)).dd < g.nd
  generalize ctA g (min g.l (c.t + c.rs)) c = d at ed
  unfold ctE
  split
  · show 0 ≤ nxt g.nd d.dd ∧ nxt g.nd d.dd < g.nd; rw [ed]; exact hn
  · show 0 ≤ d.dd ∧ d.dd < g.nd; rw [ed]; exact hd
theorem ctM_cg {g : SG} {l2 : Int → Int} (hl : ∀ j, 0 ≤ j → j < g.nd → g.ln j = l2 j) : ∀ (n : Nat) (c : CS), (0 ≤ c.dd ∧ c.dd < g.nd) → ctM (sgl g l2) n c = ctM g n c ∧ (0 ≤ (ctM g n c).dd ∧ (ctM g n c).dd < g.nd) := by
  intro n
  induction n with
  | zero => intro c h; exact ⟨rfl, h⟩
  | succ n ih =>
    intro c h
    show (if c.t < g.l ∨ c.rs ≤ 0 then ctM (sgl g l2) n (ctS (sgl g l2) c) else c) = (if c.t < g.l ∨ c.rs ≤ 0 then ctM g n (ctS g c) else c) ∧ (0 ≤ (if c.t < g.l ∨ c.rs ≤ 0 then ctM g n (ctS g c) else c).dd ∧ (if c.t < g.l ∨ c.rs ≤ 0 then ctM g n (ctS g c) else c).dd < g.nd)
    by_cases q : c.t < g.l ∨ c.rs ≤ 0
    · rw [if_pos q, if_pos q, ctS_cg hl h]
      exact ih _ (ctS_dd h)
    · rw [if_neg q, if_neg q]; exact ⟨rfl, h⟩
/-- two walks that look at the same -/
def swE (np : Int) (w v : SW) : Prop := (∀ j, 0 ≤ j → j < np → w.px j = v.px j ∧ w.py j = v.py j) ∧ w.hf = v.hf ∧ w.nd = v.nd ∧ (∀ j, 0 ≤ j → j < w.nd → w.ln j = v.ln j) ∧ w.wl = v.wl ∧ w.fl = v.fl
theorem sgT_cg {np : Int} {w v : SW} {x1 y1 x2 y2 : Int} {c : CS} (h : swE np w v) (hd : 0 < w.wl → 0 ≤ c.dd ∧ c.dd < w.nd) : sgT w x1 y1 x2 y2 c = sgT v x1 y1 x2 y2 c ∧ (0 < w.wl → 0 ≤ (sgT w x1 y1 x2 y2 c).dd ∧ (sgT w x1 y1 x2 y2 c).dd < w.nd) := by
  obtain ⟨px, py, hf, nd, ln, wl, fl⟩ := w
  obtain ⟨qx, qy, hf2, nd2, ln2, wl2, fl2⟩ := v
  obtain ⟨-, e1, e2, e3, e4, e5⟩ := h
  have e1 : hf = hf2 := e1
  have e2 : nd = nd2 := e2
  have e3 : ∀ j, 0 ≤ j → j < nd → ln j = ln2 j := e3
  have e4 : wl = wl2 := e4
  have e5 : fl = fl2 := e5
  subst e1 e2 e4 e5
  have hd : 0 < wl → 0 ≤ c.dd ∧ c.dd < nd := hd
  unfold sgT
  by_cases q : x2 - x1 = 0 ∧ y2 - y1 = 0
  · rw [if_pos q, if_pos q]; exact ⟨rfl, hd⟩
  · rw [if_neg q, if_neg q]
    show (if 0 < wl then _ else _) = (if 0 < wl then _ else _) ∧ (0 < wl → 0 ≤ (if 0 < wl then _ else _ : CS).dd ∧ (if 0 < wl then _ else _ : CS).dd < nd)
    by_cases z : 0 < wl
    · rw [if_pos z, if_pos z]
      have k := ctM_cg (g := sgm (px, py, hf, nd, ln, wl, fl) x1 y1 x2 y2) (l2 := ln2) e3 fl (0, c.dd, c.on, c.rs, c.N, c.L, c.F) (hd z)
      refine ⟨?_, fun _ => k.2⟩
      have k1 : ctM (sgm (qx, qy, hf, nd, ln2, wl, fl) x1 y1 x2 y2) fl (0, c.dd, c.on, c.rs, c.N, c.L, c.F) = ctM (sgm (px, py, hf, nd, ln, wl, fl) x1 y1 x2 y2) fl (0, c.dd, c.on, c.rs, c.N, c.L, c.F) := k.1
      show ((1 : Int), (ctM (sgm (px, py, hf, nd, ln, wl, fl) x1 y1 x2 y2) fl (0, c.dd, c.on, c.rs, c.N, c.L, c.F)).2) = (1, (ctM (sgm (qx, qy, hf, nd, ln2, wl, fl) x1 y1 x2 y2) fl (0, c.dd, c.on, c.rs, c.N, c.L, c.F)).2)
      rw [k1]
    · rw [if_neg z, if_neg z]; exact ⟨rfl, fun y => absurd y z⟩
theorem sgs_cg {np : Int} {w v : SW} {fv bv : Int} (h : swE np w v) (hf : 0 ≤ fv) (hfb : fv < bv) (hb : bv ≤ np) : ∀ (n : Nat) (i : Int) (c : CS), fv + 1 ≤ i → i + n ≤ bv + 1 → (0 < w.wl → 0 ≤ c.dd ∧ c.dd < w.nd) → sgs w fv bv n i c = sgs v fv bv n i c := by
  intro n
  induction n with
  | zero => intro i c _ _ _; rfl
  | succ n ih =>
    intro i c h0 h1 hd
    have a := h.1 (i - 1) (by omega) (by omega)
    have b := h.1 (if i < bv then i else fv) (by split <;> omega) (by split <;> omega)
    show sgs w fv bv n (i + 1) _ = sgs v fv bv n (i + 1) _
    rw [← a.1, ← a.2, ← b.1, ← b.2]
    have k := sgT_cg (x1 := w.px (i - 1)) (y1 := w.py (i - 1)) (x2 := w.px (if i < bv then i else fv)) (y2 := w.py (if i < bv then i else fv)) (c := c) h hd
    rw [← k.1]
    exact ih _ _ (by omega) (by omega) k.2
theorem subM_cg {np : Int} {w v : SW} {fv bv shv sd so sr N : Int} {F : Int → Pc8} (h : swE np w v) (hf : 0 ≤ fv) (hfb : fv < bv) (hb : bv ≤ np) (hd : 0 < w.wl → 0 ≤ sd ∧ sd < w.nd) : subM w fv bv shv sd so sr N F = subM v fv bv shv sd so sr N F := by
  unfold subM
  rw [sgs_cg h hf hfb hb (sbL bv shv - fv).toNat (fv + 1) (0, sd, so, sr, N, -1, F) (Int.le_refl _) (by unfold sbL; split <;> omega) hd]
  generalize sgs v fv bv (sbL bv shv - fv).toNat (fv + 1) (0, sd, so, sr, N, -1, F) = c
  unfold sbD
  have a := h.1 fv hf (by omega)
  rw [a.1, a.2, h.2.2.2.2.1]
theorem wkM_cg {np : Int} {w v : SW} {fs sh f2 s2 : Int → Int} {ns sd so sr : Int} (h : swE np w v) (hpt : ∀ s, 0 ≤ s → s < ns → 0 ≤ fs s ∧ fs s < bvF fs ns np s ∧ bvF fs ns np s ≤ np) (hfs : ∀ s, 0 ≤ s → s < ns → fs s = f2 s ∧ sh s = s2 s) (hd : 0 < w.wl → 0 ≤ sd ∧ sd < w.nd) : ∀ (n : Nat) (s : Int) (c : Int × (Int → Pc8)), 0 ≤ s → s + n ≤ ns → wkM w fs sh ns np sd so sr n s c = wkM v f2 s2 ns np sd so sr n s c := by
  intro n
  induction n with
  | zero => intro s c _ _; rfl
  | succ n ih =>
    intro s c h0 h1
    have a := hfs s h0 (by omega)
    have b : bvF fs ns np s = bvF f2 ns np s := by
      unfold bvF
      split
      · rename_i q; exact (hfs (s + 1) (by omega) q).1
      · rfl
    have p := hpt s h0 (by omega)
    show wkM w fs sh ns np sd so sr n (s + 1) _ = wkM v f2 s2 ns np sd so sr n (s + 1) _
    rw [← a.1, ← a.2, ← b, subM_cg h p.1 p.2.1 p.2.2 hd]
    exact ih _ _ (by omega) (by omega)
theorem WMf_cg {px py fs sh ln qx qy f2 s2 l2 : Int → Int} {pcp : Nat} {ns np hf cp jn lm nd wl ph : Int} (hp : pathI px py fs sh pcp np ns) (hq : penI hf cp jn lm nd ph wl ln) (h1 : ∀ j, 0 ≤ j → j < np → px j = qx j ∧ py j = qy j) (h2 : ∀ s, 0 ≤ s → s < ns → fs s = f2 s ∧ sh s = s2 s) (h3 : ∀ j, 0 ≤ j → j < nd → ln j = l2 j) : WMf px py fs sh ns np hf nd ln wl ph = WMf qx qy f2 s2 ns np hf nd l2 wl ph := by
  have hwl := pen_wl hq
  have hE : swE np (px, py, hf, nd, ln, wl, 1000000) (qx, qy, hf, nd, l2, wl, 1000000) := ⟨h1, rfl, rfl, h3, rfl, rfl⟩
  unfold WMf
  by_cases q : 0 < wl
  · rw [if_pos q, if_pos q]
    have hd := ph_ds (lf := (phM nd ln 16 (ph % (2 * wl)) 0 1).1) (sd := (phM nd ln 16 (ph % (2 * wl)) 0 1).2.1) (so := (phM nd ln 16 (ph % (2 * wl)) 0 1).2.2) hq.2.2.2.2.2.1 ⟨hwl.2 q, hq.2.2.2.2.1.2⟩ hq.2.2.2.2.2.2.1 q rfl
    have e := phM_cg h3 16 (ph % (2 * wl)) 0 1 (Int.le_refl _) (hwl.2 q)
    rw [← e, ← h3 _ hd.1.1.1 hd.1.1.2]
    exact wkM_cg hE hp.2.1 h2 (fun _ => hd.1.1) ns.toNat 0 (0, z8) (Int.le_refl _) (by have := hp.1; omega)
  · rw [if_neg q, if_neg q]
    exact wkM_cg hE hp.2.1 h2 (fun z => absurd z q) ns.toNat 0 (0, z8) (Int.le_refl _) (by have := hp.1; omega)
