/-! what holds of all pieces -/
abbrev pcBf (v : Pc8) : Int := v.2.2.2.2.2.2.1
abbrev pcKd (v : Pc8) : Int := v.2.2.2.2.2.2.2
def pcO (H : Int) (v : Pc8) : Prop := pcB v.1 v.2.1 v.2.2.1 v.2.2.2.1 v.2.2.2.2.1 v.2.2.2.2.2.1 H ∧ (¬ (v.1 = v.2.2.1 ∧ v.2.1 = v.2.2.2.1) → ¬ (v.2.2.1 - v.1) * v.2.2.2.2.2.1 - (v.2.2.2.1 - v.2.1) * v.2.2.2.2.1 = 0)
def pcK (v : Pc8) : Prop := (pcKd v = 2 ∧ pcBf v = -1 ∧ v.1 = v.2.2.1 ∧ v.2.1 = v.2.2.2.1) ∨ ((pcKd v = 0 ∨ pcKd v = 1) ∧ ¬ (v.2.2.2.2.1 = 0 ∧ v.2.2.2.2.2.1 = 0))
def pcL (F : Int → Pc8) (N : Int) (v : Pc8) : Prop := -1 ≤ pcBf v ∧ pcBf v < N ∧ (0 ≤ pcBf v → (F (pcBf v)).2.2.1 = v.1 ∧ (F (pcBf v)).2.2.2.1 = v.2.1)
def INV (H N L : Int) (F : Int → Pc8) : Prop := 0 ≤ N ∧ -1 ≤ L ∧ L < N ∧ (0 ≤ L → pcKd (F L) = 0) ∧ ∀ n, 0 ≤ n → n < N → pcO H (F n) ∧ pcK (F n) ∧ pcL F N (F n)
theorem fup_s (F : Int → Pc8) (N : Int) (v : Pc8) : fup F N v N = v := if_pos rfl
theorem fup_n {F : Int → Pc8} {N j : Int} {v : Pc8} (h : j ≠ N) : fup F N v j = F j := if_neg h
theorem INV_add {H N L : Int} {F : Int → Pc8} {v : Pc8} (h : INV H N L F) (h1 : pcO H v) (h2 : pcKd v = 0) (h3 : ¬ (v.2.2.2.2.1 = 0 ∧ v.2.2.2.2.2.1 = 0)) (h4 : pcBf v = L) (h5 : 0 ≤ L → (F L).2.2.1 = v.1 ∧ (F L).2.2.2.1 = v.2.1) : INV H (N + 1) N (fup F N v) := by
  obtain ⟨a1, a2, a3, a4, a5⟩ := h
  refine ⟨by omega, by omega, by omega, fun _ => by rw [fup_s]; exact h2, ?_⟩
  intro n n0 n1
  by_cases e : n = N
  · rw [e, fup_s]
    refine ⟨h1, Or.inr ⟨Or.inl h2, h3⟩, by omega, by omega, ?_⟩
    intro q
    rw [h4] at q ⊢
    rw [fup_n (by omega)]
    exact h5 q
  · rw [fup_n e]
    obtain ⟨b1, b2, b3, b4, b5⟩ := a5 n n0 (by omega)
    refine ⟨b1, b2, b3, by omega, ?_⟩
    intro q
    rw [fup_n (by omega)]
    exact b5 q
theorem INV_dot {H N x y : Int} {F : Int → Pc8} (h : INV H N (-1) F) (hH : 8 ≤ H ∧ H ≤ 32768) (hx : -140000 ≤ x ∧ x ≤ 140000) (hy : -140000 ≤ y ∧ y ≤ 140000) : INV H (N + 1) (-1) (fup F N (x, y, x, y, 0, 0, -1, 2)) := by
  obtain ⟨a1, a2, a3, a4, a5⟩ := h
  refine ⟨by omega, by omega, by omega, fun q => by omega, ?_⟩
  intro n n0 n1
  by_cases e : n = N
  · rw [e, fup_s]
    refine ⟨⟨⟨hx, hy, hx, hy, by show -H ≤ 0 ∧ 0 ≤ H; omega, by show -H ≤ 0 ∧ 0 ≤ H; omega, hH.1, hH.2⟩, fun q => absurd ⟨rfl, rfl⟩ q⟩, Or.inl ⟨rfl, rfl, rfl, rfl⟩, ?_, ?_, ?_⟩
    · show (-1 : Int) ≤ -1; omega
    · show (-1 : Int) < N + 1; omega
    · intro (q : (0 : Int) ≤ -1); omega
  · rw [fup_n e]
    obtain ⟨b1, b2, b3, b4, b5⟩ := a5 n n0 (by omega)
    refine ⟨b1, b2, b3, by omega, ?_⟩
    intro q
    rw [fup_n (by omega)]
    exact b5 q
theorem INV_end {H N L : Int} {F : Int → Pc8} (h : INV H N L F) : INV H N (-1) (fend F L 1) := by
  obtain ⟨a1, a2, a3, a4, a5⟩ := h
  unfold fend
  split
  · rename_i hL
    refine ⟨a1, by omega, by omega, fun q => by omega, ?_⟩
    have hk := a4 hL
    have hw : ∀ j, (fup F L (fkd (F L) 1) j).2.2.1 = (F j).2.2.1 ∧ (fup F L (fkd (F L) 1) j).2.2.2.1 = (F j).2.2.2.1 := by
      intro j
      by_cases e : j = L
      · rw [e, fup_s]; exact ⟨rfl, rfl⟩
      · rw [fup_n e]; exact ⟨rfl, rfl⟩
    intro n n0 n1
    obtain ⟨b1, b2, b3, b4, b5⟩ := a5 n n0 n1
    by_cases e : n = L
    · subst e
      rw [fup_s]
      refine ⟨b1, ?_, b3, b4, ?_⟩
      · rcases b2 with q | q
        · omega
        · exact Or.inr ⟨Or.inr rfl, q.2⟩
      · intro q
        rw [(hw _).1, (hw _).2]
        exact b5 q
    · rw [fup_n e]
      refine ⟨b1, b2, b3, b4, ?_⟩
      intro q
      rw [(hw _).1, (hw _).2]
      exact b5 q
  · exact ⟨a1, by omega, by omega, fun q => by omega, a5⟩
theorem INV_close {H N L k : Int} {F : Int → Pc8} (h : INV H N L F) (hk : 0 ≤ k) (hc : 0 ≤ L ∧ k ≤ L → ¬ pcKd (F k) = 2 ∧ (F L).2.2.1 = (F k).1 ∧ (F L).2.2.2.1 = (F k).2.1) : INV H N (clL k L) (clF F k L) := by
  obtain ⟨a1, a2, a3, a4, a5⟩ := h
  unfold clL clF
  by_cases q : 0 ≤ L ∧ k ≤ L
  · rw [if_pos q, if_pos q]
    obtain ⟨c1, c2, c3⟩ := hc q
    refine ⟨a1, by omega, by omega, fun q => by omega, ?_⟩
    have hw : ∀ j, (fup F k (fbf (F k) L) j).2.2.1 = (F j).2.2.1 ∧ (fup F k (fbf (F k) L) j).2.2.2.1 = (F j).2.2.2.1 := by
      intro j
      by_cases e : j = k
      · rw [e, fup_s]; exact ⟨rfl, rfl⟩
      · rw [fup_n e]; exact ⟨rfl, rfl⟩
    intro n n0 n1
    obtain ⟨b1, b2, b3, b4, b5⟩ := a5 n n0 n1
    by_cases e : n = k
    · subst e
      rw [fup_s]
      refine ⟨b1, ?_, a2, a3, ?_⟩
      · rcases b2 with w | w
        · omega
        · exact Or.inr w
      · intro _
        rw [(hw _).1, (hw _).2]
        exact ⟨c2, c3⟩
    · rw [fup_n e]
      refine ⟨b1, b2, b3, b4, ?_⟩
      intro q
      rw [(hw _).1, (hw _).2]
      exact b5 q
  · rw [if_neg q, if_neg q]
    exact ⟨a1, a2, a3, a4, a5⟩
/-- a segment as it must be -/
def sgV (H : Int) (g : SG) : Prop := (0 < g.l ∧ g.l ≤ 6000000) ∧ g.l * g.l ≤ 65536 * (g.ax * g.ax + g.ay * g.ay) ∧ ¬ (g.ax = 0 ∧ g.ay = 0) ∧ sgO H g.ax g.ay g.ox g.oy ∧ coP g.fx ∧ coP g.fy ∧ coP (g.fx + g.ax) ∧ coP (g.fy + g.ay) ∧ 8 ≤ H ∧ H ≤ 32768
theorem fn_bd {l fr al t : Int} (hl : 0 < l) (h0 : 0 ≤ t) (h1 : t ≤ l) (hf : coP fr) (hg : coP (fr + al)) : -140000 ≤ fnA l fr al t ∧ fnA l fr al t ≤ 140000 := by
  have h := fnA_bd (fr := fr) (al := al) hl h0 h1
  unfold coP at hf hg
  rcases Int.le_total 0 al with q | q
  · have := h.1 q; omega
  · have := h.2 q; omega
theorem ctP_ok {H : Int} {g : SG} {t q L : Int} (hg : sgV H g) (h0 : 0 ≤ t) (h1 : t ≤ q) (h2 : q ≤ g.l) (hc : t = 0 ∨ q = g.l ∨ q = t ∨ 256 ≤ q - t) : pcO H (ctP g t q L) ∧ ¬ ((ctP g t q L).2.2.2.2.1 = 0 ∧ (ctP g t q L).2.2.2.2.2.1 = 0) := by
  obtain ⟨g1, g2, g3, g4, g5, g6, g7, g8, g9, g10⟩ := hg
  have ob := sgO_bd g4
  refine ⟨⟨⟨fn_bd g1.1 h0 (by omega) g5 g7, fn_bd g1.1 h0 (by omega) g6 g8, fn_bd g1.1 (by omega) h2 g5 g7, fn_bd g1.1 (by omega) h2 g6 g8, ob.1, ob.2, g9, g10⟩, ?_⟩, off_nz g9 g3 g4⟩
  intro hn
  have hn : ¬ (fnA g.l g.fx g.ax t = fnA g.l g.fx g.ax q ∧ fnA g.l g.fy g.ay t = fnA g.l g.fy g.ay q) := hn
  show ¬ (fnA g.l g.fx g.ax q - fnA g.l g.fx g.ax t) * g.oy - (fnA g.l g.fy g.ay q - fnA g.l g.fy g.ay t) * g.ox = 0
  rw [fnA_r, fnA_r, fnA_r, fnA_r] at hn ⊢
  have h9 := ndeg (t := t) (q := q) g9 g3 g4 g1.1 g2 h0 h1 h2 hc (fun w => hn ⟨by omega, by omega⟩)
  rw [show 16 * g.fx + rnA g.l g.ax q - (16 * g.fx + rnA g.l g.ax t) = rnA g.l g.ax q - rnA g.l g.ax t by omega, show 16 * g.fy + rnA g.l g.ay q - (16 * g.fy + rnA g.l g.ay t) = rnA g.l g.ay q - rnA g.l g.ay t by omega]
  exact h9
/-- what the cutting keeps -/
def ctI (H : Int) (g : SG) (c : CS) : Prop := INV H c.N c.L c.F ∧ (0 ≤ c.t ∧ c.t ≤ g.l) ∧ (0 ≤ c.L → c.on = 1 ∧ (c.F c.L).2.2.1 = fnA g.l g.fx g.ax c.t ∧ (c.F c.L).2.2.2.1 = fnA g.l g.fy g.ay c.t) ∧ (c.t = 0 ∨ c.t = g.l ∨ ∃ k, 0 ≤ k ∧ c.rs = 256 * k) ∧ dsB g.nd c.dd c.on c.rs
theorem ctS_I {H : Int} {g : SG} {c : CS} (hg : sgV H g) (hln : ∀ j, 0 ≤ j → j < g.nd → 0 ≤ g.ln j ∧ g.ln j ≤ 8192) (h : ctI H g c) : ctI H g (ctS g c) := by
  have hb2 := ctS_bd hln h.2.2.2.2 h.2.1.2
  obtain ⟨t, dd, on, rs, N, L, F⟩ := c
  obtain ⟨i1, ⟨i2, i3⟩, i4, i5, i6⟩ := h
  have i1 : INV H N L F := i1
  have i2 : 0 ≤ t := i2
  have i3 : t ≤ g.l := i3
  have i4 : 0 ≤ L → on = 1 ∧ (F L).2.2.1 = fnA g.l g.fx g.ax t ∧ (F L).2.2.2.1 = fnA g.l g.fy g.ay t := i4
  have i5 : t = 0 ∨ t = g.l ∨ ∃ k, 0 ≤ k ∧ rs = 256 * k := i5
  obtain ⟨⟨d1, d2⟩, d3, d4, d5⟩ := i6
  have d1 : 0 ≤ dd := d1
  have d2 : dd < g.nd := d2
  have d4 : 0 ≤ rs := d4
  have hq : ∃ q, q = min g.l (t + rs) := ⟨_, rfl⟩
  obtain ⟨q, hq⟩ := hq
  have hqb : t ≤ q ∧ q ≤ g.l := by omega
  have hcc : t = 0 ∨ q = g.l ∨ q = t ∨ 256 ≤ q - t := by
    rcases i5 with e | e | ⟨k, e0, e1⟩
    · exact Or.inl e
    · exact Or.inr (Or.inl (by omega))
    · rcases Int.lt_or_le 0 k with w | w
      · by_cases z : q = g.l
        · exact Or.inr (Or.inl z)
        · exact Or.inr (Or.inr (Or.inr (by omega)))
      · by_cases z : q = g.l
        · exact Or.inr (Or.inl z)
        · exact Or.inr (Or.inr (Or.inl (by omega)))
  have hnx : 0 ≤ nxt g.nd dd ∧ nxt g.nd dd < g.nd := by unfold nxt; split <;> omega
  have hl2 := hln _ hnx.1 hnx.2
  -- the step behind the piece
  have step : ∀ N2 L2 F2, ctS g (t, dd, on, rs, N, L, F) = ctE g q (t, dd, on, rs, N2, L2, F2) → INV H N2 L2 F2 → (0 ≤ L2 → on = 1 ∧ (F2 L2).2.2.1 = fnA g.l g.fx g.ax q ∧ (F2 L2).2.2.2.1 = fnA g.l g.fy g.ay q) → ctI H g (ctS g (t, dd, on, rs, N, L, F)) := by
    intro N2 L2 F2 e hI hL
    by_cases w : rs - (q - t) ≤ 0
    · rw [ctE_e w rfl] at e
      rw [e] at hb2 ⊢
      refine ⟨INV_end hI, ⟨?_, ?_⟩, ?_, ?_, hb2.1⟩
      · show 0 ≤ q; omega
      · exact hqb.2
      · intro (z : (0 : Int) ≤ -1); omega
      · exact Or.inr (Or.inr ⟨g.ln (nxt g.nd dd), hl2.1, rfl⟩)
    · rw [ctE_on w] at e
      rw [e] at hb2 ⊢
      refine ⟨hI, ⟨?_, ?_⟩, hL, ?_, hb2.1⟩
      · show 0 ≤ q; omega
      · exact hqb.2
      · refine Or.inr (Or.inl ?_)
        show q = g.l
        omega
  by_cases o : on = 1
  · have hp := ctP_ok (L := L) hg i2 hqb.1 hqb.2 hcc
    refine step _ _ _ (ctS_on o hq) (INV_add i1 hp.1 rfl hp.2 rfl ?_) ?_
    · intro z
      exact (i4 z).2
    · intro _
      rw [fup_s]
      exact ⟨o, rfl, rfl⟩
  · have hL : L = -1 := by
      rcases Int.lt_or_le L 0 with z | z
      · have := i1.2.1; omega
      · exact absurd (i4 z).1 o
    refine step _ _ _ (ctS_off o hq) i1 ?_
    intro z
    omega
theorem ctM_I {H : Int} {g : SG} (hg : sgV H g) (hln : ∀ j, 0 ≤ j → j < g.nd → 0 ≤ g.ln j ∧ g.ln j ≤ 8192) : ∀ (n : Nat) (c : CS), ctI H g c → ctI H g (ctM g n c) := by
  intro n
  induction n with
  | zero => intro c h; exact h
  | succ n ih =>
    intro c h
    unfold ctM
    split
    · exact ih _ (ctS_I hg hln h)
    · exact h
